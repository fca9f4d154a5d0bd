import java.lang.reflect.Field;
import java.util.function.ToIntFunction;

/** What is done (second part of the Terms), and promises 9 to 14. */
final class DeedBoundaries {
    private DeedBoundaries() {
    }

    static final class Promise09Gives extends Checks {
        private static final String TWO = "p20 1;p30 2;w0 0;";

        @Says("BAD;")
        static void personMinus1IsBad() {
            SmashedHours x = of(TWO);
            refused(x, "gives(-1)", () -> x.gives(-1), BAD);
        }

        @Says("BAD;")
        static void theNextPersonIsBad() {
            SmashedHours x = of(TWO);
            refused(x, "gives(2)", () -> x.gives(2), BAD);
            due("gives(1)", x.gives(1), 1);
        }

        @Says("BAD;")
        static void farNumbersAreBad() {
            SmashedHours x = of(TWO);
            for (int far : FAR) {
                due("gives(" + far + ")", x.gives(far), BAD);
            }
            due("now(1)", x.now(1), 0);
        }

        @Says({"STATE (as told).", "a PERSON who HAS an HOUR"})
        static void whoHasNoHourIsState() {
            SmashedHours x = behindNight(TWO, 2);
            due("has none", x.person(1, 2), NONE);
            due("has nights", x.person(1, 1), 1);
            refused(x, "gives(1)", () -> x.gives(1), STATE);
        }

        @Says({"STATE (as told).", "has NIGHTS left"})
        static void whoHasNoNightsLeftIsState() {
            SmashedHours x = behindNight(TWO, 1);
            due("has his hour", x.person(0, 2), 0);
            due("has no nights", x.person(0, 1), 0);
            refused(x, "gives(0)", () -> x.gives(0), STATE);
        }

        @Says("has NIGHTS left")
        static void theLastNightMayBeGiven() {
            due("gives(0)", of(TWO).gives(0), 1);
        }

        @Says({"STATE (as told).", "is not in THE SILK: he is in it."})
        static void whoIsInTheSilkIsState() {
            SmashedHours x = given(TWO, 2);
            refused(x, "gives(1)", () -> x.gives(1), STATE);
        }

        @Says("is not in THE SILK: he is in it.")
        static void whoWasTakenOutMayGiveAgain() {
            SmashedHours x = given(TWO, 2);
            x.takes(1);
            due("gives(1)", x.gives(1), 1);
        }

        @Says("how many are in THE SILK.")
        static void theSixthIsInTheSilk() {
            SmashedHours x = of(people(6));
            for (int p = 5; p >= 0; p--) {
                due("gives(" + p + ")", x.gives(p), 6 - p);
            }
            due("gives(6)", x.gives(6), BAD);
        }
    }

    static final class Promise10Takes extends Checks {
        private static final String TWO = "p20 1;p30 2;w0 0;";

        @Says("BAD;")
        static void personMinus1IsBad() {
            SmashedHours x = given(TWO, 3);
            refused(x, "takes(-1)", () -> x.takes(-1), BAD);
        }

        @Says("BAD;")
        static void theNextPersonIsBad() {
            SmashedHours x = given(TWO, 3);
            refused(x, "takes(2)", () -> x.takes(2), BAD);
            due("takes(1)", x.takes(1), 1);
        }

        @Says("BAD;")
        static void farNumbersAreBad() {
            SmashedHours x = given(TWO, 3);
            for (int far : FAR) {
                due("takes(" + far + ")", x.takes(far), BAD);
            }
            due("now(1)", x.now(1), 3);
        }

        @Says("STATE: he is not.")
        static void whoIsNotInTheSilkIsState() {
            SmashedHours x = given(TWO, 1);
            refused(x, "takes(1)", () -> x.takes(1), STATE);
        }

        @Says("STATE: he is not.")
        static void whoWasTakenOutIsState() {
            SmashedHours x = given(TWO, 3);
            x.takes(1);
            refused(x, "takes(1)", () -> x.takes(1), STATE);
        }

        @Says({"STATE: he is not.", "Then THE SILK is empty."})
        static void behindTheNightIsState() {
            SmashedHours x = behindNight(TWO, 3);
            refused(x, "takes(0)", () -> x.takes(0), STATE);
            due("takes(1)", x.takes(1), STATE);
        }

        @Says({"how many are in THE SILK.", "TAKEN OUT: he is not."})
        static void theLastOneLeavesNobody() {
            SmashedHours x = given(TWO, 1);
            due("takes(0)", x.takes(0), 0);
            due("now(1)", x.now(1), 0);
        }

        @Says("TAKEN OUT: he is not.")
        static void whoIsTakenOutHasNoNightLess() {
            SmashedHours x = given(TWO, 1);
            x.takes(0);
            x.night();
            due("person(0, 1)", x.person(0, 1), 1);
            due("person(0, 2)", x.person(0, 2), 0);
        }
    }

    static final class Promise11Night extends Checks {
        @Says("how many were in RINGS.")
        static void anEmptySilkIs0() {
            SmashedHours x = of("p20 1;");
            due("night()", x.night(), 0);
            nowIs("behind it", x, 1, 0, 0, 0, 0, 1, 1);
            due("person(0, 1)", x.person(0, 1), 1);
        }

        @Says("how many were in RINGS.")
        static void lumpsAreNotCounted() {
            due("night()", given("p20 1;p30 1;p40 1;w0 0;", 7).night(), 1);
            due("night() of lumps", given(people(6), 63).night(), 0);
        }

        @Says("how many were in RINGS.")
        static void oneRingOfAllSix() {
            SmashedHours x = given(people(6) + "w0 1;w1 2;w2 3;w3 4;w4 5;w5 0;", 63);
            due("night()", x.night(), 6);
            for (int p = 0; p < 6; p++) {
                due("person(" + p + ", 2)", x.person(p, 2), (p + 1) % 6);
            }
        }

        @Says("how many were in RINGS.")
        static void sixRingsOfOne() {
            due("night()", given(people(6) + "w0 0;w1 1;w2 2;w3 3;w4 4;w5 5;", 63).night(), 6);
        }

        @Says({"STATE: there were 999.", "A NIGHT goes by (999 at most)"})
        static void the999thGoesByAndThe1000thIsState() {
            SmashedHours x = of("p20 1;");
            for (int i = 1; i <= 999; i++) {
                due("night() " + i, x.night(), 0);
            }
            due("now(0)", x.now(0), 999);
            x.gives(0);
            refused(x, "night()", x::night, STATE);
        }
    }

    static final class TermsNight extends Checks {
        @Says("each in THE SILK has a NIGHT less")
        static void whoIsNotInTheSilkHasNoNightLess() {
            SmashedHours x = behindNight("p20 2;p30 2;", 1);
            due("person(0, 1)", x.person(0, 1), 1);
            due("person(1, 1)", x.person(1, 1), 2);
            due("person(1, 2)", x.person(1, 2), 1);
        }

        @Says("each in THE SILK has a NIGHT less")
        static void ringsAndLumpsHaveANightLess() {
            SmashedHours x = behindNight("p20 9;p30 1;w0 0;", 3);
            due("person(0, 1)", x.person(0, 1), 8);
            due("person(1, 1)", x.person(1, 1), 0);
        }

        @Says("Again and again, till nobody is left")
        static void ringsAndLumpsByTurnsTillNobodyIsLeft() {
            // 5 is a lump; 0 and 1 a ring; 2, who pointed at 0, a lump; then 3, who pointed at 2; 4 a ring alone.
            SmashedHours x = given("p1 1;p2 1;p3 1;p4 1;p5 1;p6 1;w0 1;w1 0;w2 0;w3 2;w4 3 4;", 63);
            wouldAll("by turns", x, 1, 0, NONE, NONE, 4, NONE);
            due("night()", x.night(), 3);
            bitsAre("by turns", x, 6, 3, 4);
            due("now(1)", x.now(1), 0);
        }

        @Says("each of those left POINTS at the one of them who gave an HOUR that he WANTS")
        static void whoIsNotInTheSilkIsNotPointedAt() {
            wouldAll("0 and 2", given("p1 9;p1 9;p1 9;w0 1 2;w2 0;", 5), 2, STATE, 0);
        }

        @Says("each of those left POINTS at the one of them who gave an HOUR that he WANTS")
        static void whoIsOutIsNotPointedAt() {
            wouldAll("2 comes too late", given("p1 9;p1 9;p1 9;w0 1;w1 0;w2 0 1;", 7), 1, 0, NONE);
        }

        @Says("(he himself may be)")
        static void heHimselfMayBePointedAt() {
            SmashedHours x = given("p20 9;w0 0;", 1);
            due("would(0)", x.would(0), 0);
            due("night()", x.night(), 1);
            bitsAre("no lump", x);
        }

        @Says("0 that which is first in his WANTS")
        static void law0TakesTheFirstOfWants() {
            wouldAll("law 0", given("p30 9;p30 9;p50 9;w0 2 1 0;w1 0;w2 0;l0;", 7), 2, NONE, 0);
        }

        @Says("1 the one whose WEIGHT is nearest to that of the HOUR he gave")
        static void law1TakesTheNearest() {
            wouldAll("above", given("p30 9;p31 9;p28 9;w0 2 1;w1 0;w2 0;l1;", 7), 1, 0, NONE);
            wouldAll("below", given("p30 9;p33 9;p28 9;w0 1 2;w1 0;w2 0;l1;", 7), 2, NONE, 0);
        }

        @Says("1 the one whose WEIGHT is nearest to that of the HOUR he gave")
        static void law1TakesTheFarthestWhenItIsAlone() {
            wouldAll("59 apart", given("p1 9;p60 9;w0 1;w1 0;l1;", 3), 1, 0);
        }

        @Says("1 the one whose WEIGHT is nearest to that of the HOUR he gave")
        static void law1GoesByTheHourHeGaveNotByHisOwn() {
            // 0 lost 10 and gives the 50 of 1, than which nothing is nearer; by his own 10 he would point at 2.
            SmashedHours x = behindNight("p10 9;p50 9;p12 9;w0 1 2;w1 0;w2 1;", 3);
            due("0 has", x.person(0, 2), 1);
            x.laws(1);
            give(x, 5);
            wouldAll("law 1", x, 1, STATE, NONE);
        }

        @Says("of like ones the first in his WANTS")
        static void law1OfLikeOnesTakesTheFirst() {
            wouldAll("2 ahead", given("p30 9;p31 9;p29 9;w0 2 1;w1 0;w2 0;l1;", 7), 2, NONE, 0);
            wouldAll("1 ahead", given("p30 9;p31 9;p29 9;w0 1 2;w1 0;w2 0;l1;", 7), 1, 0, NONE);
            wouldAll("the same weight", given("p30 9;p40 9;p40 9;w0 2 1;w1 0;w2 0;l1;", 7), 2, NONE, 0);
        }

        @Says("2 the one of the lowest number")
        static void law2TakesTheLowestHour() {
            wouldAll("law 2", given("p30 9;p60 9;p30 9;w0 2 1;w1 0;w2 0;l2;", 7), 1, 0, NONE);
        }

        @Says("2 the one of the lowest number")
        static void law2GoesByTheHourNotByWhoGaveIt() {
            SmashedHours x = behindNight("p10 9;p20 9;p30 9;p40 9;p50 9;w0 4;w1 3 0;w3 1 0;w4 3 1;", 10);
            due("1 has", x.person(1, 2), 3);
            due("3 has", x.person(3, 2), 1);
            x.laws(2);
            give(x, 27);
            wouldAll("law 2", x, 4, 3, STATE, 0, 1);
        }

        @Says("If one or more POINT at nobody, of these the lowest is out: his HOUR is a LUMP")
        static void ofSeveralTheLowestIsOutFirst() {
            bitsAre("as they went", behindNight("p11 9;p12 9;p13 9;", 7), 11, 12, 13);
        }

        @Says("If one or more POINT at nobody, of these the lowest is out: his HOUR is a LUMP")
        static void allPointAnewWhenOneIsOut() {
            // 0 points at 1 till 1 is out, and is the lowest then, ahead of 2.
            bitsAre("as they went", behindNight("p11 9;p12 9;p13 9;w0 1;", 7), 12, 11, 13);
        }

        @Says("If one or more POINT at nobody, of these the lowest is out: his HOUR is a LUMP")
        static void lumpsGoAheadOfRings() {
            // 3 points at nobody and is out ahead of the ring of 0 and 1; 2 points at nobody behind it alone.
            bitsAre("as they went", behindNight("p11 9;p12 9;p13 9;p14 9;w0 1;w1 0;w2 0;", 15), 14, 13);
        }

        @Says("he HAS none (NONE)")
        static void whoseHourIsALumpHasNone() {
            SmashedHours x = behindNight("p11 9;p12 9;w0 1;", 3);
            due("person(0, 2)", x.person(0, 2), NONE);
            due("person(1, 2)", x.person(1, 2), NONE);
            due("gives(0)", x.gives(0), STATE);
        }

        @Says("its WEIGHT comes to BITS, behind the others")
        static void lumpsOfLaterNightsComeBehind() {
            SmashedHours x = behindNight("p11 9;p12 9;p13 9;", 4);
            give(x, 2);
            x.night();
            give(x, 1);
            x.night();
            bitsAre("three nights", x, 13, 12, 11);
        }

        @Says("when there are 8 already, it is lost")
        static void theEighthBitComesAndTheNinthIsLost() throws Exception {
            SmashedHours x = given("p11 9;p12 9;w1 0;", 3);
            putBits(x, 1, 2, 3, 4, 5, 6, 7);
            due("night()", x.night(), 0);
            bitsAre("the ninth is lost", x, 1, 2, 3, 4, 5, 6, 7, 11);
            due("person(1, 2)", x.person(1, 2), NONE);
        }

        @Says("when there are 8 already, it is lost")
        static void eightBitsAreJoinedAndAsked() throws Exception {
            SmashedHours x = of("p11 9;");
            putBits(x, 1, 9, 10, 5, 5, 10, 10, 10);
            due("joins(256)", x.joins(256), BAD);
            due("joins(127)", x.joins(127), STATE);
            due("join(0)", x.join(0), 255);
            due("join(1)", x.join(1), 0);
            due("join(2)", x.join(2), 1);
            due("joins(255)", x.joins(255), 1);
            bitsAre("all are joined", x);
        }

        /** Six people lose six hours at most, so that no run of calls comes to eight bits: they are put from within. */
        private static void putBits(SmashedHours x, int... minutes) throws Exception {
            Object here = field(SmashedHours.class, "here").get(x);
            int[] bits = (int[]) field(here.getClass(), "bits").get(here);
            System.arraycopy(minutes, 0, bits, 0, minutes.length);
            field(here.getClass(), "bitCount").setInt(here, minutes.length);
        }

        private static Field field(Class<?> of, String name) throws Exception {
            Field field = of.getDeclaredField(name);
            field.setAccessible(true);
            return field;
        }

        @Says("from the lowest one left on, each the one at whom the one ahead POINTS, till one comes again")
        static void theRingThatTheLowestLeadsToIsFirst() {
            // 0 leads to the ring of 4 and 5; then 0 is the lowest lump, ahead of 3.
            SmashedHours x = given("p1 9;p2 9;p3 9;p4 9;p5 9;p6 9;w0 5;w1 2;w2 1;w3 1;w4 5;w5 4;", 63);
            wouldAll("led", x, NONE, 2, 1, NONE, 5, 4);
            x.night();
            bitsAre("led", x, 1, 4);
        }

        @Says("those from him on are the RING")
        static void thoseAheadOfHimAreNotInTheRing() {
            SmashedHours x = given("p1 9;p2 9;p3 9;p4 9;w0 1;w1 2;w2 3;w3 2;", 15);
            wouldAll("a tail of two", x, NONE, NONE, 3, 2);
            due("night()", x.night(), 2);
        }

        @Says("those from him on are the RING")
        static void aTailOfFiveLeadsToHimWhoPointsAtHimself() {
            SmashedHours x = given(people(6) + "w0 1;w1 2;w2 3;w3 4;w4 5;w5 5;", 63);
            wouldAll("a tail of five", x, NONE, NONE, NONE, NONE, NONE, 5);
            due("night()", x.night(), 1);
        }

        @Says("Then THE SILK is empty.")
        static void theSilkIsEmptyBehindTheNight() {
            SmashedHours x = behindNight("p20 9;p30 9;w0 0;", 3);
            due("now(1)", x.now(1), 0);
            due("gives(0)", x.gives(0), 1);
        }
    }

    static final class Promise12Joins extends Checks {
        private static final String BITS = "p59 1;p1 1;p1 1;";

        @Says({"BAD (of BITS there are)", "some BITS (bits; one at least)"})
        static void noBitsAtAllAreBad() {
            SmashedHours x = behindNight(BITS, 7);
            refused(x, "joins(0)", () -> x.joins(0), BAD);
        }

        @Says("BAD (of BITS there are)")
        static void setMinus1IsBad() {
            SmashedHours x = behindNight(BITS, 7);
            refused(x, "joins(-1)", () -> x.joins(-1), BAD);
        }

        @Says("BAD (of BITS there are)")
        static void aBitThatIsNotThereIsBad() {
            SmashedHours x = behindNight(BITS, 7);
            refused(x, "joins(8)", () -> x.joins(8), BAD);
        }

        @Says({"BAD (of BITS there are)", "the first of these: BAD (a number is not as told, or there is no such thing), STATE (as told), FULL."})
        static void badGoesAheadOfState() {
            SmashedHours x = behindNight(BITS, 7);
            refused(x, "joins(9)", () -> x.joins(9), BAD);
            due("joins(11), 60 minutes of those there are", x.joins(11), BAD);
        }

        @Says("BAD (of BITS there are)")
        static void farNumbersAreBad() {
            SmashedHours x = behindNight(BITS, 7);
            for (int far : FAR) {
                due("joins(" + far + ")", x.joins(far), BAD);
                due("joins(" + (far | 3) + ")", x.joins(far | 3), BAD);
            }
            due("now(2)", x.now(2), 3);
        }

        @Says("BAD (of BITS there are)")
        static void withoutBitsEverySetIsBad() {
            SmashedHours x = of(BITS);
            for (int set = 0; set <= 8; set++) {
                due("joins(" + set + ")", x.joins(set), BAD);
            }
        }

        @Says("STATE: they are not 60 minutes.")
        static void of59MinutesIsState() {
            SmashedHours x = behindNight(BITS, 7);
            refused(x, "joins(1)", () -> x.joins(1), STATE);
        }

        @Says("STATE: they are not 60 minutes.")
        static void of61MinutesIsState() {
            SmashedHours x = behindNight(BITS, 7);
            refused(x, "joins(7)", () -> x.joins(7), STATE);
        }

        @Says("STATE: they are not 60 minutes.")
        static void of120MinutesIsState() {
            SmashedHours x = behindNight("p60 1;p60 1;", 3);
            refused(x, "joins(3)", () -> x.joins(3), STATE);
        }

        @Says("JOINED: HOURS MADE.")
        static void of60MinutesIsMade() {
            SmashedHours x = behindNight(BITS, 7);
            due("joins(3)", x.joins(3), 1);
            due("now(3)", x.now(3), 1);
        }

        @Says("some BITS (bits; one at least) that are 60 minutes together are no more")
        static void oneBitOf60IsMade() {
            SmashedHours x = behindNight("p60 1;p1 1;", 3);
            due("joins(1)", x.joins(1), 1);
            bitsAre("1 is left", x, 1);
        }

        @Says("some BITS (bits; one at least) that are 60 minutes together are no more")
        static void allSixBitsAreMade() {
            SmashedHours x = behindNight("p10 1;".repeat(6), 63);
            due("joins(63)", x.joins(63), 1);
            bitsAre("none is left", x);
        }

        @Says("(later ones come up)")
        static void laterOnesComeUp() {
            SmashedHours x = behindNight("p11 1;p20 1;p13 1;p40 1;p15 1;", 31);
            due("joins(10)", x.joins(10), 1);
            bitsAre("three come up", x, 11, 13, 15);
        }

        @Says("BAD (of BITS there are)")
        static void whatWasTheLastBitIsBadThen() {
            SmashedHours x = behindNight("p60 1;p60 1;", 3);
            due("joins(2)", x.joins(2), 1);
            refused(x, "joins(2)", () -> x.joins(2), BAD);
            due("joins(1)", x.joins(1), 2);
        }
    }

    static final class Promise13Laws extends Checks {
        @Says("BAD;")
        static void lawMinus1IsBad() {
            SmashedHours x = of("l1;");
            refused(x, "laws(-1)", () -> x.laws(-1), BAD);
        }

        @Says({"BAD;", "LAW: which it was."})
        static void law2IsTheLastAnd3IsBad() {
            SmashedHours x = of("l1;");
            refused(x, "laws(3)", () -> x.laws(3), BAD);
            due("laws(2)", x.laws(2), 1);
        }

        @Says("BAD;")
        static void farNumbersAreBad() {
            SmashedHours x = of("l1;");
            for (int far : FAR) {
                due("laws(" + far + ")", x.laws(far), BAD);
            }
            due("now(4)", x.now(4), 1);
        }

        @Says("STATE: it is so.")
        static void theSameLawIsState() {
            for (int law = 0; law <= 2; law++) {
                int same = law;
                SmashedHours x = of("l" + law + ";");
                refused(x, "laws(" + law + ")", () -> x.laws(same), STATE);
            }
        }

        @Says({"LAW: which it was.", "LAW: another one."})
        static void anotherLawTellsWhichItWas() {
            SmashedHours x = new SmashedHours();
            due("laws(2)", x.laws(2), 0);
            due("laws(0)", x.laws(0), 2);
            due("laws(1)", x.laws(1), 0);
            due("now(4)", x.now(4), 1);
        }
    }

    static final class Promise14Undo extends Checks {
        private static final String THREE = "p20 3;p40 2;p5 1;w2 2;";

        @Says("STATE: none.")
        static void nothingDoneIsState() {
            SmashedHours x = of(THREE);
            refused(x, "undo()", x::undo, STATE);
        }

        @Says("STATE: none.")
        static void allUndoneIsState() {
            SmashedHours x = given(THREE, 1);
            due("undo()", x.undo(), 0);
            refused(x, "undo() again", x::undo, STATE);
        }

        @Says("the latest gives(), takes(), night(), joins(), laws() that was not refused")
        static void aRefusedCallIsNotUndone() {
            SmashedHours x = given(THREE, 1);
            x.gives(0);
            x.gives(9);
            x.takes(1);
            x.joins(1);
            x.laws(0);
            x.laws(3);
            due("now(6)", x.now(6), 1);
            due("undo()", x.undo(), 0);
            due("now(1)", x.now(1), 0);
        }

        @Says("the latest gives(), takes(), night(), joins(), laws() that was not refused")
        static void nothingElseIsUndone() {
            SmashedHours x = of(THREE);
            x.type('p');
            x.clear();
            x.tells(1, 0, 0);
            x.forget();
            x.rate(0, 0);
            x.keep(0);
            refused(x, "undo()", x::undo, STATE);
        }

        @Says("the latest gives(), takes(), night(), joins(), laws() that was not refused")
        static void undoIsNotUndone() {
            SmashedHours x = given(THREE, 3);
            due("undo()", x.undo(), 1);
            due("undo() again", x.undo(), 0);
            due("now(1)", x.now(1), 0);
        }

        @Says("the latest gives(), takes(), night(), joins(), laws() that was not refused")
        static void givesIsUndone() {
            SmashedHours x = given(THREE, 6);
            due("undo()", x.undo(), 1);
            due("now(1)", x.now(1), 2);
        }

        @Says("the latest gives(), takes(), night(), joins(), laws() that was not refused")
        static void takesIsUndone() {
            SmashedHours x = given(THREE, 6);
            x.takes(1);
            due("undo()", x.undo(), 2);
            due("now(1)", x.now(1), 6);
        }

        @Says("the latest gives(), takes(), night(), joins(), laws() that was not refused")
        static void nightIsUndone() {
            SmashedHours x = behindNight(THREE, 7);
            due("undo()", x.undo(), 3);
            nowIs("as ahead of the night", x, 0, 7, 0, 0, 0, 7, 3);
            bitsAre("no bits", x);
            due("person(2, 1)", x.person(2, 1), 1);
            due("person(0, 2)", x.person(0, 2), 0);
        }

        @Says("the latest gives(), takes(), night(), joins(), laws() that was not refused")
        static void anEmptyNightIsUndone() {
            SmashedHours x = behindNight(THREE, 0);
            due("undo()", x.undo(), 0);
            due("now(0)", x.now(0), 0);
        }

        @Says("the latest gives(), takes(), night(), joins(), laws() that was not refused")
        static void joinsIsUndone() {
            SmashedHours x = behindNight("p20 3;p7 1;p40 2;", 7);
            x.joins(5);
            due("undo()", x.undo(), 4);
            due("now(3)", x.now(3), 0);
            bitsAre("as ahead of joins", x, 20, 7, 40);
        }

        @Says("the latest gives(), takes(), night(), joins(), laws() that was not refused")
        static void lawsIsUndone() {
            SmashedHours x = of("l1;");
            x.laws(2);
            due("undo()", x.undo(), 0);
            due("now(4)", x.now(4), 1);
        }

        @Says("(10 are known, older ones are lost)")
        static void tenAreUndone() {
            SmashedHours x = new SmashedHours();
            for (int i = 1; i <= 10; i++) {
                x.night();
            }
            for (int more = 9; more >= 0; more--) {
                due("undo()", x.undo(), more);
            }
            due("now(0)", x.now(0), 0);
            refused(x, "undo()", x::undo, STATE);
        }

        @Says("(10 are known, older ones are lost)")
        static void theEleventhIsLost() {
            SmashedHours x = new SmashedHours();
            x.laws(2);
            for (int i = 1; i <= 10; i++) {
                x.night();
            }
            for (int more = 9; more >= 0; more--) {
                due("undo()", x.undo(), more);
            }
            refused(x, "undo()", x::undo, STATE);
            due("now(4)", x.now(4), 2);
        }

        @Says("(10 are known, older ones are lost)")
        static void doneAndUndoneManyTimesOver() {
            SmashedHours x = new SmashedHours();
            for (int round = 0; round < 5; round++) {
                for (int i = 0; i < 7; i++) {
                    x.night();
                }
                for (int i = 0; i < 3; i++) {
                    x.undo();
                }
            }
            due("now(0)", x.now(0), 20);
            due("now(6)", x.now(6), 7);
            for (int more = 6; more >= 0; more--) {
                due("undo()", x.undo(), more);
            }
            due("now(0) then", x.now(0), 13);
            due("undo()", x.undo(), STATE);
        }

        @Says("(nothing can be UNDONE behind back())")
        static void behindBackIsState() {
            SmashedHours x = given(THREE, 1);
            x.keep(0);
            x.back(0);
            refused(x, "undo()", x::undo, STATE);
        }
    }

    static final class TermsRefused extends Checks {
        /** Something of everything: a lump, a made hour, somebody in the silk, a told night, a full text, an image. */
        private static SmashedHours rich() {
            SmashedHours x = behindNight("p20 1;p40 2;p7 3;p5 3;w2 3;w3 2;l1;", 3);
            x.joins(3);
            x.gives(2);
            x.tells(12, 2, 3);
            x.rate(3, 2);
            x.keep(0);
            say(x, "p1 1;" + blanks(144) + ";");
            return x;
        }

        private static void refusedByRich(String call, int want, ToIntFunction<SmashedHours> made) {
            SmashedHours x = rich();
            refused(x, call, () -> made.applyAsInt(x), want);
            due("undo() behind " + call, x.undo(), 4);
            due("back(0) behind " + call, x.back(0), 1);
            due("house() behind " + call, x.house(), -159);
        }

        @Says("Refused, and nothing changes")
        static void badChangesNothing() {
            refusedByRich("type(256)", BAD, x -> x.type(256));
            refusedByRich("person(4, 0)", BAD, x -> x.person(4, 0));
            refusedByRich("wants(0, 4)", BAD, x -> x.wants(0, 4));
            refusedByRich("bit(8)", BAD, x -> x.bit(8));
            refusedByRich("now(7)", BAD, x -> x.now(7));
            refusedByRich("gives(4)", BAD, x -> x.gives(4));
            refusedByRich("takes(4)", BAD, x -> x.takes(4));
            refusedByRich("joins(0)", BAD, x -> x.joins(0));
            refusedByRich("laws(3)", BAD, x -> x.laws(3));
            refusedByRich("would(4)", BAD, x -> x.would(4));
            refusedByRich("served(16)", BAD, x -> x.served(16));
        }

        @Says("Refused, and nothing changes")
        static void badOfLaterCallsChangesNothing() {
            refusedByRich("get(0, 4)", BAD, x -> x.get(0, 4));
            refusedByRich("most(2)", BAD, x -> x.most(2));
            refusedByRich("could(4)", BAD, x -> x.could(4));
            refusedByRich("odds(0, 11, 0)", BAD, x -> x.odds(0, 11, 0));
            refusedByRich("join(3)", BAD, x -> x.join(3));
            refusedByRich("tells(12, 0, 2)", BAD, x -> x.tells(12, 0, 2));
            refusedByRich("stop(6, 0, 0, 0, 0)", BAD, x -> x.stop(6, 0, 0, 0, 0));
            refusedByRich("rate(6, 0)", NO, x -> x.rate(6, 0));
            refusedByRich("keep(2)", BAD, x -> x.keep(2));
            refusedByRich("back(2)", BAD, x -> x.back(2));
            refusedByRich("count(3)", BAD, x -> x.count(3));
        }

        @Says("Refused, and nothing changes")
        static void stateChangesNothing() {
            refusedByRich("gives(0)", STATE, x -> x.gives(0));
            refusedByRich("gives(2)", STATE, x -> x.gives(2));
            refusedByRich("takes(3)", STATE, x -> x.takes(3));
            refusedByRich("laws(1)", STATE, x -> x.laws(1));
            refusedByRich("would(3)", STATE, x -> x.would(3));
            refusedByRich("served(1)", STATE, x -> x.served(1));
            refusedByRich("back(1)", STATE, x -> x.back(1));
        }

        @Says("Refused, and nothing changes")
        static void fullChangesNothing() {
            refusedByRich("type(32)", FULL, x -> x.type(32));
        }

        @Says("Refused, and nothing changes")
        static void aFaultChangesNothing() {
            refusedByRich("house()", -159, SmashedHours::house);
        }
    }
}
