/** Promises 5 to 8: what is asked of the house. */
final class HouseBoundaries {
    private HouseBoundaries() {
    }

    static final class Promise05Person extends Checks {
        private static final String TWO = "p20 3;p60 9;w0 1 0;";

        @Says("BAD.")
        static void personMinus1IsBad() {
            SmashedHours x = of(TWO);
            refused(x, "person(-1, 0)", () -> x.person(-1, 0), BAD);
        }

        @Says("BAD.")
        static void theLastPersonIsThereAndTheNextIsBad() {
            SmashedHours x = of(TWO);
            due("person(1, 0)", x.person(1, 0), 60);
            due("person(2, 0)", x.person(2, 0), BAD);
        }

        @Says("BAD.")
        static void theSixthPersonIsThereAndTheSeventhIsBad() {
            SmashedHours x = of(people(6));
            due("person(5, 0)", x.person(5, 0), 1);
            due("person(6, 0)", x.person(6, 0), BAD);
        }

        @Says("BAD.")
        static void nobodyIsBad() {
            due("person(0, 0)", new SmashedHours().person(0, 0), BAD);
        }

        @Says("BAD.")
        static void whatMinus1IsBad() {
            SmashedHours x = of(TWO);
            refused(x, "person(0, -1)", () -> x.person(0, -1), BAD);
        }

        @Says({"4 how many WANTS", "BAD."})
        static void what4IsTheLastAnd5IsBad() {
            SmashedHours x = of(TWO);
            due("person(0, 4)", x.person(0, 4), 2);
            due("person(0, 5)", x.person(0, 5), BAD);
        }

        @Says("BAD.")
        static void farNumbersAreBad() {
            SmashedHours x = of(TWO);
            for (int far : FAR) {
                due("person(" + far + ", 0)", x.person(far, 0), BAD);
                due("person(0, " + far + ")", x.person(0, far), BAD);
            }
        }

        @Says("0 WEIGHT")
        static void weightStaysHisOwnWhenHeHasAnotherHour() {
            SmashedHours x = behindNight("p20 3;p40 3;w0 1;w1 0;", 3);
            due("person(0, 2)", x.person(0, 2), 1);
            due("person(0, 0)", x.person(0, 0), 20);
        }

        @Says("1 NIGHTS left")
        static void nightsLeftGoDownTo0() {
            SmashedHours x = behindNight("p20 1;w0 0;", 1);
            due("person(0, 1)", x.person(0, 1), 0);
        }

        @Says("2 whose HOUR he HAS (NONE)")
        static void whoHasNoHourHasNone() {
            due("person(0, 2)", behindNight("p20 1;", 1).person(0, 2), NONE);
        }

        @Says("Each HAS his own HOUR at first.")
        static void eachHasHisOwnHourAtFirst() {
            SmashedHours x = of(people(6));
            for (int p = 0; p < 6; p++) {
                due("person(" + p + ", 2)", x.person(p, 2), p);
            }
        }

        @Says("2 whose HOUR he HAS (NONE)")
        static void whoIsInTheSilkHasHisHourTillTheNight() {
            SmashedHours x = given(TWO, 1);
            due("person(0, 2)", x.person(0, 2), 0);
            due("person(0, 1)", x.person(0, 1), 3);
        }

        @Says("3 whether in THE SILK (1, 0)")
        static void inTheSilkAndOutOfIt() {
            SmashedHours x = of(TWO);
            due("person(1, 3)", x.person(1, 3), 0);
            x.gives(1);
            due("person(1, 3) given", x.person(1, 3), 1);
            due("person(0, 3)", x.person(0, 3), 0);
            x.takes(1);
            due("person(1, 3) taken out", x.person(1, 3), 0);
        }

        @Says("4 how many WANTS")
        static void wantsAre0To4() {
            SmashedHours x = of(people(5) + "w1 0;w2 0 1;w3 0 1 2;w4 0 1 2 3;");
            for (int p = 0; p < 5; p++) {
                due("person(" + p + ", 4)", x.person(p, 4), p);
            }
        }
    }

    static final class Promise06Wants extends Checks {
        private static final String FIVE = people(5) + "w0 4 3 2 1;w1 0;";

        @Says({"The k-th of WANTS (0 the best)", "BAD (0 .. 3)."})
        static void k0IsTheBestAndMinus1IsBad() {
            SmashedHours x = of(FIVE);
            due("wants(0, 0)", x.wants(0, 0), 4);
            refused(x, "wants(0, -1)", () -> x.wants(0, -1), BAD);
        }

        @Says("BAD (0 .. 3).")
        static void k3IsTheLastAnd4IsBad() {
            SmashedHours x = of(FIVE);
            due("wants(0, 3)", x.wants(0, 3), 1);
            due("wants(0, 4)", x.wants(0, 4), BAD);
        }

        @Says("NONE (not so many)")
        static void theFirstThatIsNotThereIsNone() {
            SmashedHours x = of(FIVE);
            due("wants(1, 0)", x.wants(1, 0), 0);
            due("wants(1, 1)", x.wants(1, 1), NONE);
            due("wants(1, 3)", x.wants(1, 3), NONE);
        }

        @Says("NONE (not so many)")
        static void whoWantsNothingHasNone() {
            SmashedHours x = of(FIVE);
            for (int k = 0; k <= 3; k++) {
                due("wants(2, " + k + ")", x.wants(2, k), NONE);
            }
            due("wants(2, 4)", x.wants(2, 4), BAD);
        }

        @Says("BAD (0 .. 3).")
        static void personMinus1AndTheNextAreBad() {
            SmashedHours x = of(FIVE);
            due("wants(-1, 0)", x.wants(-1, 0), BAD);
            due("wants(5, 0)", x.wants(5, 0), BAD);
            due("nobody", new SmashedHours().wants(0, 0), BAD);
        }

        @Says("BAD (0 .. 3).")
        static void farNumbersAreBad() {
            SmashedHours x = of(FIVE);
            for (int far : FAR) {
                due("wants(" + far + ", 0)", x.wants(far, 0), BAD);
                due("wants(0, " + far + ")", x.wants(0, far), BAD);
            }
        }
    }

    static final class Promise07Bit extends Checks {
        @Says("BAD (0 .. 7).")
        static void kMinus1IsBad() {
            SmashedHours x = new SmashedHours();
            refused(x, "bit(-1)", () -> x.bit(-1), BAD);
        }

        @Says("BAD (0 .. 7).")
        static void k7IsTheLastAnd8IsBad() {
            SmashedHours x = new SmashedHours();
            due("bit(7)", x.bit(7), NONE);
            due("bit(8)", x.bit(8), BAD);
        }

        @Says("BAD (0 .. 7).")
        static void farNumbersAreBad() {
            SmashedHours x = behindNight("p20 1;", 1);
            for (int far : FAR) {
                due("bit(" + far + ")", x.bit(far), BAD);
            }
        }

        @Says("NONE (not so many)")
        static void withoutBitsAllAreNone() {
            bitsAre("none", of(people(6)));
        }

        @Says("NONE (not so many)")
        static void theFirstThatIsNotThereIsNone() {
            SmashedHours x = behindNight("p20 1;p30 1;", 3);
            due("bit(1)", x.bit(1), 30);
            due("bit(2)", x.bit(2), NONE);
        }

        @Says("NONE (not so many)")
        static void whatWasJoinedIsNone() {
            SmashedHours x = behindNight("p60 1;p30 1;", 3);
            x.joins(1);
            bitsAre("30 is left", x, 30);
        }

        @Says("Minutes of the k-th of BITS")
        static void bitsOf1AndOf60Minutes() {
            bitsAre("both", behindNight("p60 1;p1 1;", 3), 60, 1);
        }
    }

    static final class Promise08Now extends Checks {
        @Says("BAD.")
        static void whatMinus1IsBad() {
            SmashedHours x = of("p20 3;");
            refused(x, "now(-1)", () -> x.now(-1), BAD);
        }

        @Says({"6 how many may be UNDONE.", "BAD."})
        static void what6IsTheLastAnd7IsBad() {
            SmashedHours x = given("p20 3;", 1);
            due("now(6)", x.now(6), 1);
            due("now(7)", x.now(7), BAD);
        }

        @Says("BAD.")
        static void farNumbersAreBad() {
            SmashedHours x = new SmashedHours();
            for (int far : FAR) {
                due("now(" + far + ")", x.now(far), BAD);
            }
        }

        @Says("0 NIGHTS gone by")
        static void anEmptyNightHasGoneByToo() {
            SmashedHours x = of("p20 3;");
            due("now(0)", x.now(0), 0);
            x.night();
            due("now(0) behind it", x.now(0), 1);
        }

        @Says({"1 THE SILK (bits)", "PEOPLE who gave for this night (none at first)"})
        static void theSilkIsEmptyAtFirstAndHasAllSixAtMost() {
            SmashedHours x = of(people(6));
            due("now(1)", x.now(1), 0);
            give(x, 63);
            due("now(1) of all", x.now(1), 63);
        }

        @Says("2 BITS (how many)")
        static void bitsAre0AtFirstAndSixAtMost() {
            SmashedHours x = of(people(6));
            due("now(2)", x.now(2), 0);
            give(x, 63);
            x.night();
            due("now(2) of all", x.now(2), 6);
        }

        @Says("3 HOURS MADE")
        static void hoursMadeAre0AtFirstAndSixAtMost() {
            SmashedHours x = behindNight("p60 1;".repeat(6), 63);
            due("now(3)", x.now(3), 0);
            for (int i = 1; i <= 6; i++) {
                x.joins(1);
            }
            due("now(3) of all", x.now(3), 6);
        }

        @Says("5 PEOPLE who HAVE their own HOUR (bits)")
        static void allSixHaveTheirOwnAtFirst() {
            due("now(5)", of(people(6)).now(5), 63);
        }

        @Says("5 PEOPLE who HAVE their own HOUR (bits)")
        static void whoHasNoneOrAnotherHasNotHisOwn() {
            SmashedHours x = behindNight("p1 9;p1 9;p1 9;p1 9;w0 1;w1 0;w3 3;", 15);
            due("now(5)", x.now(5), 8);
        }

        @Says("6 how many may be UNDONE.")
        static void tenMayBeUndoneAtMost() {
            SmashedHours x = new SmashedHours();
            for (int i = 1; i <= 12; i++) {
                x.night();
                due("now(6) behind " + i, x.now(6), Math.min(i, 10));
            }
        }
    }
}
