/** Promises 15 to 20: nights that might be. */
final class NightBoundaries {
    private NightBoundaries() {
    }

    static final class Promise15Would extends Checks {
        private static final String THREE = "p20 3;p40 2;p5 1;w0 1;w1 0;w2 2;";

        @Says("BAD;")
        static void personMinus1IsBad() {
            SmashedHours x = given(THREE, 7);
            refused(x, "would(-1)", () -> x.would(-1), BAD);
        }

        @Says("BAD;")
        static void theNextPersonIsBad() {
            SmashedHours x = given(THREE, 7);
            refused(x, "would(3)", () -> x.would(3), BAD);
            due("would(2)", x.would(2), 2);
        }

        @Says("BAD;")
        static void farNumbersAreBad() {
            SmashedHours x = given(THREE, 7);
            for (int far : FAR) {
                due("would(" + far + ")", x.would(far), BAD);
            }
        }

        @Says("STATE: he is not in THE SILK.")
        static void whoIsNotInTheSilkIsState() {
            SmashedHours x = given(THREE, 6);
            refused(x, "would(0)", () -> x.would(0), STATE);
        }

        @Says("STATE: he is not in THE SILK.")
        static void anEmptySilkIsState() {
            SmashedHours x = behindNight(THREE, 7);
            refused(x, "would(0)", () -> x.would(0), STATE);
        }

        @Says({"NONE (a LUMP).", "what a PERSON in THE SILK would HAVE (NONE: a LUMP)"})
        static void aLumpIsNone() {
            due("would(1)", given(THREE, 6).would(1), NONE);
            due("alone", given("p20 3;", 1).would(0), NONE);
        }

        @Says("(As things are NOW; nothing is changed.)")
        static void nothingIsChanged() {
            SmashedHours x = given(THREE, 7);
            changesNothing(x, "would(0)", () -> x.would(0), 1);
            changesNothing(x, "would(2)", () -> x.would(2), 2);
        }
    }

    static final class Promise16Served extends Checks {
        private static final String THREE = "p20 3;p40 2;p5 1;w0 1;w1 0;w2 2;";

        @Says("SERVED.")
        static void ofNobodyIs0() {
            SmashedHours x = given(THREE, 7);
            changesNothing(x, "served(0)", () -> x.served(0), 0);
        }

        @Says("BAD (bits of PEOPLE there are)")
        static void setMinus1IsBad() {
            SmashedHours x = of(THREE);
            refused(x, "served(-1)", () -> x.served(-1), BAD);
        }

        @Says("BAD (bits of PEOPLE there are)")
        static void allThereAreAndOneMoreIsBad() {
            SmashedHours x = of(THREE);
            due("served(7)", x.served(7), 3);
            refused(x, "served(8)", () -> x.served(8), BAD);
            due("served(15)", x.served(15), BAD);
        }

        @Says("BAD (bits of PEOPLE there are)")
        static void allSixAndASeventhIsBad() {
            SmashedHours x = of(people(6) + "w0 1;w1 2;w2 3;w3 4;w4 5;w5 0;");
            due("served(63)", x.served(63), 6);
            due("served(64)", x.served(64), BAD);
            due("served(127)", x.served(127), BAD);
        }

        @Says("BAD (bits of PEOPLE there are)")
        static void farNumbersAreBad() {
            SmashedHours x = of(THREE);
            for (int far : FAR) {
                due("served(" + far + ")", x.served(far), BAD);
                due("served(" + (far | 3) + ")", x.served(far | 3), BAD);
            }
        }

        @Says("STATE: one HAS no HOUR, no NIGHTS left.")
        static void oneWhoHasNoHourIsState() {
            SmashedHours x = behindNight(THREE, 2);
            due("1 has nights", x.person(1, 1), 1);
            refused(x, "served(2)", () -> x.served(2), STATE);
            due("served(7)", x.served(7), STATE);
            due("served(5)", x.served(5), 1);
        }

        @Says("STATE: one HAS no HOUR, no NIGHTS left.")
        static void oneWhoHasNoNightsLeftIsState() {
            SmashedHours x = behindNight(THREE, 4);
            due("2 has an hour", x.person(2, 2), 2);
            refused(x, "served(4)", () -> x.served(4), STATE);
            due("served(7)", x.served(7), STATE);
            due("served(3)", x.served(3), 2);
        }

        @Says({"BAD (bits of PEOPLE there are)", "the first of these: BAD (a number is not as told, or there is no such thing), STATE (as told), FULL."})
        static void badGoesAheadOfState() {
            SmashedHours x = behindNight(THREE, 2);
            refused(x, "served(10)", () -> x.served(10), BAD);
        }

        @Says("how many of them would be in RINGS, were just these in THE SILK")
        static void whoIsInTheSilkNowIsNoMatter() {
            SmashedHours x = given(THREE, 2);
            due("served(1)", x.served(1), 0);
            changesNothing(x, "served(3)", () -> x.served(3), 2);
        }

        @Says("how many of them would be in RINGS, were just these in THE SILK")
        static void lumpsAreNotServed() {
            due("served(7)", of("p1 1;p1 1;p1 1;").served(7), 0);
            due("served(6)", of(THREE).served(6), 1);
        }
    }

    static final class Promise17Get extends Checks {
        private static final String TWO = "p20 3;p40 2;w0 1;w1 0;";

        @Says("BAD.")
        static void personMinus1IsBad() {
            SmashedHours x = of(TWO);
            refused(x, "get(-1, 0)", () -> x.get(-1, 0), BAD);
        }

        @Says("BAD.")
        static void theNextPersonIsBad() {
            SmashedHours x = of(TWO);
            refused(x, "get(2, 0)", () -> x.get(2, 0), BAD);
        }

        @Says("BAD.")
        static void hourMinus1IsBad() {
            SmashedHours x = of(TWO);
            refused(x, "get(0, -1)", () -> x.get(0, -1), BAD);
        }

        @Says("BAD.")
        static void theNextHourIsBad() {
            SmashedHours x = of(TWO);
            refused(x, "get(0, 2)", () -> x.get(0, 2), BAD);
            due("get(0, 1)", x.get(0, 1), 3);
        }

        @Says("BAD.")
        static void noneAsAnHourIsBad() {
            SmashedHours x = of("p1 1;p1 1;");
            due("get(0, NONE)", x.get(0, NONE), BAD);
        }

        @Says("BAD.")
        static void farNumbersAreBad() {
            SmashedHours x = of(TWO);
            for (int far : FAR) {
                due("get(" + far + ", 0)", x.get(far, 0), BAD);
                due("get(0, " + far + ")", x.get(0, far), BAD);
            }
        }

        @Says("GET, as bits; NONE.")
        static void anHourHeDoesNotWantIsNone() {
            SmashedHours x = of(TWO);
            changesNothing(x, "get(0, 0)", () -> x.get(0, 0), NONE);
        }

        @Says("GET, as bits; NONE.")
        static void anHourThatIsLostIsNone() {
            due("get(0, 1)", behindNight(TWO, 2).get(0, 1), NONE);
        }

        @Says("GET, as bits; NONE.")
        static void whoHasNoHourGetsNone() {
            due("get(1, 0)", behindNight(TWO, 2).get(1, 0), NONE);
        }

        @Says("GET, as bits; NONE.")
        static void whoHasNoNightsLeftGetsNone() {
            SmashedHours x = behindNight("p20 1;p40 9;w0 1 0;w1 0;", 1);
            due("person(0, 2)", x.person(0, 2), 0);
            due("get(0, 0)", x.get(0, 0), NONE);
            due("get(0, 1)", x.get(0, 1), NONE);
            due("get(1, 0), of him", x.get(1, 0), NONE);
        }

        @Says("of all such sets that have him, by which he would HAVE that one")
        static void theHourHeHasIsGotByHimselfAlone() {
            due("get(0, 0)", of("p20 1;w0 0;").get(0, 0), 1);
            SmashedHours x = behindNight("p20 3;p40 2;p1 1;w0 1;w1 0;", 3);
            due("get(0, 1)", x.get(0, 1), 1);
        }

        @Says("that of fewest PEOPLE")
        static void fewestPeopleGoAheadOfLeastBits() {
            due("get(0, 1)", of(people(5) + "w0 1;w1 2 4;w2 3;w3 0;w4 0;").get(0, 1), 19);
        }

        @Says("of several the least bits; NONE")
        static void ofSeveralTheLeastBits() {
            due("get(0, 1)", of(people(4) + "w0 1;w1 3 2;w2 0;w3 0;").get(0, 1), 7);
        }

        @Says("of all such sets that have him, by which he would HAVE that one")
        static void allSixMayBeNeeded() {
            due("get(5, 0)", of(people(6) + "w0 1;w1 2;w2 3;w3 4;w4 5;w5 0;").get(5, 0), 63);
        }
    }

    static final class Promise18Most extends Checks {
        @Says("BAD.")
        static void whatMinus1IsBad() {
            SmashedHours x = of("p1 1;w0 0;");
            refused(x, "most(-1)", () -> x.most(-1), BAD);
        }

        @Says({"how many (1).", "BAD."})
        static void what1IsTheLastAnd2IsBad() {
            SmashedHours x = of("p1 1;w0 0;");
            due("most(1)", x.most(1), 1);
            due("most(2)", x.most(2), BAD);
        }

        @Says("BAD.")
        static void farNumbersAreBad() {
            SmashedHours x = of("p1 1;w0 0;");
            for (int far : FAR) {
                due("most(" + far + ")", x.most(far), BAD);
            }
        }

        @Says("of all such sets that by which most are SERVED")
        static void whereNobodyIsServedItIsNobody() {
            SmashedHours x = of(people(3) + "w0 1;w1 2;");
            changesNothing(x, "most(0)", () -> x.most(0), 0);
            due("most(1)", x.most(1), 0);
        }

        @Says("of all such sets that by which most are SERVED")
        static void whereNobodyCanGiveItIsNobody() {
            SmashedHours x = behindNight("p1 1;p1 9;w0 0;", 3);
            due("most(0)", x.most(0), 0);
            due("most(1)", x.most(1), 0);
        }

        @Says("of all such sets that by which most are SERVED")
        static void allSixMayBeServed() {
            SmashedHours x = of(people(6) + "w0 0;w1 1;w2 2;w3 3;w4 4;w5 5;");
            due("most(0)", x.most(0), 63);
            due("most(1)", x.most(1), 6);
        }

        @Says("of all such sets that by which most are SERVED")
        static void mostServedGoesAheadOfLeastBits() {
            due("most(0)", of(people(4) + "w0 0;w2 3;w3 2 0;w1 1 0;").most(0), 15);
            due("most(0) of higher ones", of(people(4) + "w0 1;w1 0 2;w2 1 3;w3 2;").most(0), 15);
            due("most(0) of the last alone", of(people(3) + "w2 2;").most(0), 4);
        }

        @Says("of all such sets that by which most are SERVED")
        static void mostServedGoesAheadOfFewerPeople() {
            SmashedHours x = of(people(4) + "w0 1;w1 2;w2 0;w3 3 0;");
            due("most(0)", x.most(0), 15);
            SmashedHours y = of(people(4) + "w0 1;w1 2;w2 0;");
            due("most(0) ahead of the last alone", y.most(0), 7);
            due("most(1) ahead of the last alone", y.most(1), 3);
        }

        @Says("of several that of fewest LUMPS")
        static void whoWouldBeALumpIsNotAmongThem() {
            due("most(0)", of(people(4) + "w1 3;w3 1;").most(0), 10);
        }

        @Says("of these the least bits")
        static void ofSeveralTheLeastBits() {
            SmashedHours x = of(people(3) + "w0 2;w1 2;w2 1 0;");
            due("most(0)", x.most(0), 5);
            due("most(1)", x.most(1), 2);
        }

        @Says("of a set of PEOPLE who HAVE an HOUR, have NIGHTS left")
        static void whoHasNoHourOrNoNightsIsNotAmongThem() {
            SmashedHours x = behindNight("p1 1;p1 9;p1 9;w0 0;w2 2;", 3);
            due("most(0)", x.most(0), 4);
            due("most(1)", x.most(1), 1);
        }
    }

    static final class Promise19Could extends Checks {
        private static final String TWO = "p1 1;p1 1;w0 1 0;w1 0;";

        @Says("how many (p = -1)")
        static void minus1IsHowMany() {
            SmashedHours x = of(TWO);
            changesNothing(x, "could(-1)", () -> x.could(-1), 2);
        }

        @Says("BAD.")
        static void minus2IsBad() {
            SmashedHours x = of(TWO);
            refused(x, "could(-2)", () -> x.could(-2), BAD);
        }

        @Says("BAD.")
        static void theNextPersonIsBad() {
            SmashedHours x = of(TWO);
            refused(x, "could(2)", () -> x.could(2), BAD);
            due("could(1)", x.could(1), 0);
        }

        @Says("BAD.")
        static void farNumbersAreBad() {
            SmashedHours x = of(TWO);
            for (int far : FAR) {
                due("could(" + far + ")", x.could(far), BAD);
            }
        }

        @Says({"whose a PERSON has; NONE.", "NONE (none that he WANTS)"})
        static void whoWantsNothingHasNone() {
            SmashedHours x = of(people(2) + "w0 0;");
            due("could(1)", x.could(1), NONE);
            due("could(-1)", x.could(-1), 1);
        }

        @Says("NONE (none that he WANTS)")
        static void whoComesTooLateHasNone() {
            SmashedHours x = of(people(2) + "w0 0;w1 0;");
            due("could(0)", x.could(0), 0);
            due("could(1)", x.could(1), NONE);
        }

        @Says({"NONE (none that he WANTS)", "to PEOPLE who HAVE one"})
        static void whoHasNoHourHasNone() {
            SmashedHours x = behindNight(people(2) + "w0 1;w1 1;", 1);
            due("could(0)", x.could(0), NONE);
            due("could(1)", x.could(1), 1);
            due("could(-1)", x.could(-1), 1);
        }

        @Says("of all ways to give HOURS that people HAVE")
        static void anHourThatIsLostIsNotGiven() {
            SmashedHours x = of(people(2) + "w1 0;");
            due("could(-1) ahead", x.could(-1), 1);
            x.gives(0);
            due("could(-1) in the silk", x.could(-1), 1);
            x.night();
            due("could(-1)", x.could(-1), 0);
            due("could(1)", x.could(1), NONE);
        }

        @Says("(each one, no two the same)")
        static void oneHourIsGivenOnce() {
            due("could(-1)", of(people(6) + "w0 5;w1 5;w2 5;w3 5;w4 5;w5 5;").could(-1), 1);
            due("could(-1) of one", of(people(2) + "w0 0 1;").could(-1), 1);
        }

        @Says("(whatever LAW, NIGHTS)")
        static void nightsAreNoMatter() {
            SmashedHours x = behindNight("p1 1;w0 0;", 1);
            due("person(0, 1)", x.person(0, 1), 0);
            due("could(-1)", x.could(-1), 1);
            due("could(0)", x.could(0), 0);
        }

        @Says("(whatever LAW, NIGHTS)")
        static void lawIsNoMatter() {
            for (int law = 0; law <= 2; law++) {
                SmashedHours x = of("p1 1;p60 1;p2 1;w0 2 1;w1 0;w2 0 1;l" + law + ";");
                due("could(-1)", x.could(-1), 3);
                due("could(0)", x.could(0), 2);
                due("could(1)", x.could(1), 0);
                due("could(2)", x.could(2), 1);
            }
        }

        @Says("(PERSON 0's the lowest that he WANTS, behind all none of his WANTS; then 1's, ..)")
        static void theLowestHeWantsNotTheBest() {
            SmashedHours x = of(people(3) + "w0 2 1;");
            due("could(0)", x.could(0), 1);
        }

        @Says("(PERSON 0's the lowest that he WANTS, behind all none of his WANTS; then 1's, ..)")
        static void mostGoesAheadOfTheLowest() {
            SmashedHours x = of(TWO);
            due("could(0)", x.could(0), 1);
            due("could(1)", x.could(1), 0);
        }

        @Says("(PERSON 0's the lowest that he WANTS, behind all none of his WANTS; then 1's, ..)")
        static void noneIsBehindAll() {
            SmashedHours x = of(people(6) + "w0 5;w1 5;w2 4;w3 4;");
            due("could(0)", x.could(0), 5);
            due("could(1)", x.could(1), NONE);
            due("could(2)", x.could(2), 4);
            due("could(3)", x.could(3), NONE);
        }

        @Says("how many (p = -1), whose a PERSON has")
        static void allSixMayHaveOne() {
            SmashedHours x = of(people(6) + "w0 1;w1 2;w2 3;w3 4;w4 5;w5 0 5;");
            due("could(-1)", x.could(-1), 6);
            due("could(5)", x.could(5), 0);
        }
    }

    static final class Promise20Odds extends Checks {
        private static final String TWO = "p1 1;p1 9;w0 1;w1 0;";
        private static final String RING = people(6) + "w0 1;w1 2;w2 3;w3 4;w4 5;w5 0;";

        private static void oddsAre(SmashedHours x, int p, int tenths, int upper, int lower) {
            String call = "odds(" + p + ", " + tenths;
            due(call + ", 0)", x.odds(p, tenths, 0), upper);
            due(call + ", 1)", x.odds(p, tenths, 1), lower);
        }

        @Says("BAD.")
        static void personMinus1IsBad() {
            SmashedHours x = of(TWO);
            refused(x, "odds(-1, 5, 0)", () -> x.odds(-1, 5, 0), BAD);
        }

        @Says("BAD.")
        static void theNextPersonIsBad() {
            SmashedHours x = of(TWO);
            refused(x, "odds(2, 5, 0)", () -> x.odds(2, 5, 0), BAD);
        }

        @Says("BAD.")
        static void xMinus1IsBad() {
            SmashedHours x = of(TWO);
            refused(x, "odds(0, -1, 0)", () -> x.odds(0, -1, 0), BAD);
        }

        @Says("BAD.")
        static void x11IsBad() {
            SmashedHours x = of(TWO);
            refused(x, "odds(0, 11, 0)", () -> x.odds(0, 11, 0), BAD);
        }

        @Says("BAD.")
        static void whatMinus1IsBad() {
            SmashedHours x = of(TWO);
            refused(x, "odds(0, 5, -1)", () -> x.odds(0, 5, -1), BAD);
        }

        @Says({"lower number (1)", "BAD."})
        static void what1IsTheLastAnd2IsBad() {
            SmashedHours x = of(TWO);
            due("odds(0, 5, 1)", x.odds(0, 5, 1), 2);
            due("odds(0, 5, 2)", x.odds(0, 5, 2), BAD);
        }

        @Says("BAD.")
        static void farNumbersAreBad() {
            SmashedHours x = of(TWO);
            for (int far : FAR) {
                due("odds(" + far + ", 5, 0)", x.odds(far, 5, 0), BAD);
                due("odds(0, " + far + ", 0)", x.odds(0, far, 0), BAD);
                due("odds(0, 5, " + far + ")", x.odds(0, 5, far), BAD);
            }
        }

        @Says({"BAD.", "the first of these: BAD (a number is not as told, or there is no such thing), STATE (as told), FULL."})
        static void badGoesAheadOf0By1() {
            SmashedHours x = behindNight("p1 1;", 1);
            due("odds(0, 11, 0)", x.odds(0, 11, 0), BAD);
            due("odds(0, 5, 2)", x.odds(0, 5, 2), BAD);
        }

        @Says("is in THE SILK by x of 10, for himself")
        static void byX0NobodyElseComes() {
            oddsAre(of(TWO), 0, 0, 0, 1);
            oddsAre(of("p1 1;p1 1;w0 1 0;w1 0;"), 0, 0, 1, 1);
        }

        @Says("is in THE SILK by x of 10, for himself")
        static void byX10AllCome() {
            oddsAre(of(TWO), 0, 10, 1, 1);
            oddsAre(of(RING), 3, 10, 1, 1);
            oddsAre(of(people(3) + "w0 1;w1 2;w2 1;"), 0, 10, 0, 1);
        }

        @Says("(0 by 1: he can not be in it)")
        static void whoHasNoHourIs0By1() {
            SmashedHours x = behindNight("p1 9;p1 9;w1 1;", 1);
            oddsAre(x, 0, 5, 0, 1);
            oddsAre(x, 0, 10, 0, 1);
        }

        @Says("(0 by 1: he can not be in it)")
        static void whoHasNoNightsLeftIs0By1() {
            SmashedHours x = behindNight("p1 1;p1 9;w0 0;", 1);
            due("person(0, 2)", x.person(0, 2), 0);
            oddsAre(x, 0, 5, 0, 1);
        }

        @Says("each other one (who HAS an HOUR, has NIGHTS left)")
        static void whoCanNotGiveDoesNotCome() {
            // 2 has his hour still, and would be in a ring with 1, had he a night left.
            SmashedHours x = behindNight("p1 9;p1 9;p1 1;w1 2;w2 1 2;", 4);
            oddsAre(x, 1, 7, 0, 1);
            SmashedHours y = behindNight("p1 9;p1 9;p1 9;w1 0 2;w2 1;", 1);
            oddsAre(y, 1, 7, 7, 10);
        }

        @Says("in least terms")
        static void fractionsAreInLeastTerms() {
            oddsAre(of(TWO), 0, 5, 1, 2);
            oddsAre(of(TWO), 0, 2, 1, 5);
            oddsAre(of(TWO), 0, 3, 3, 10);
        }

        @Says("in least terms")
        static void theLargestLowerNumber() {
            oddsAre(of(RING), 0, 7, 16807, 100000);
            oddsAre(of(RING), 5, 9, 59049, 100000);
            oddsAre(of(RING), 2, 5, 1, 32);
            oddsAre(of(RING), 2, 0, 0, 1);
        }

        @Says("in least terms")
        static void whoIsInARingAnywayIs1By1() {
            for (int tenths = 0; tenths <= 10; tenths++) {
                oddsAre(of(people(6) + "w0 0;"), 0, tenths, 1, 1);
            }
        }

        @Says("he is: that he is in a RING")
        static void whoIsInTheSilkNowIsNoMatter() {
            SmashedHours x = given(TWO, 2);
            changesNothing(x, "odds(0, 0, 0)", () -> x.odds(0, 0, 0), 0);
            oddsAre(x, 0, 3, 3, 10);
        }
    }
}
