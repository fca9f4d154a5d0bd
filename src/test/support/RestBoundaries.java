/** Promises 21 to 30: bits, laws told, kinds and images. */
final class RestBoundaries {
    private RestBoundaries() {
    }

    static final class Promise21Join extends Checks {
        private static void joinIs(SmashedHours x, int which, int lacking, int hours) {
            due("join(0)", x.join(0), which);
            due("join(1)", x.join(1), lacking);
            due("join(2)", x.join(2), hours);
        }

        @Says("BAD.")
        static void whatMinus1IsBad() {
            SmashedHours x = behindNight("p60 1;", 1);
            refused(x, "join(-1)", () -> x.join(-1), BAD);
        }

        @Says({"HOURS (2).", "BAD."})
        static void what2IsTheLastAnd3IsBad() {
            SmashedHours x = behindNight("p60 1;", 1);
            due("join(2)", x.join(2), 1);
            due("join(3)", x.join(3), BAD);
        }

        @Says("BAD.")
        static void farNumbersAreBad() {
            SmashedHours x = behindNight("p60 1;", 1);
            for (int far : FAR) {
                due("join(" + far + ")", x.join(far), BAD);
            }
        }

        @Says({"how many minutes are lacking (1)", "which (bits); how many minutes are lacking."})
        static void withoutBits60AreLacking() {
            joinIs(of("p60 1;"), 0, 60, 0);
        }

        @Says("how many minutes are lacking (1)")
        static void oneMinute() {
            joinIs(behindNight("p1 1;", 1), 1, 59, 0);
        }

        @Says("of all sets that are 60 minutes together at most that of most minutes")
        static void just60MinutesMayBe() {
            joinIs(behindNight("p60 1;", 1), 1, 0, 1);
            joinIs(behindNight("p59 1;p1 1;", 3), 3, 0, 1);
        }

        @Says("of all sets that are 60 minutes together at most that of most minutes")
        static void minutes61AreTooMany() {
            joinIs(behindNight("p31 1;p30 1;", 3), 1, 29, 0);
            joinIs(behindNight("p60 1;p1 1;", 3), 1, 0, 1);
        }

        @Says("of all sets that are 60 minutes together at most that of most minutes")
        static void mostMinutesGoAheadOfLeastBits() {
            joinIs(behindNight("p10 1;p20 1;p59 1;", 7), 4, 1, 0);
        }

        @Says("of several the least bits: which (bits)")
        static void ofSeveralTheLeastBits() {
            joinIs(behindNight("p30 1;p30 1;p30 1;", 7), 3, 0, 1);
            joinIs(behindNight("p20 1;p40 1;p60 1;", 7), 3, 0, 2);
            joinIs(behindNight("p50 1;p50 1;", 3), 1, 10, 0);
        }

        @Says("HOURS: how many HOURS at most can be MADE of them.")
        static void sixHoursAtMost() {
            joinIs(behindNight("p60 1;".repeat(6), 63), 1, 0, 6);
        }

        @Says("HOURS: how many HOURS at most can be MADE of them.")
        static void allSixBitsForOneHour() {
            joinIs(behindNight("p10 1;".repeat(6), 63), 63, 0, 1);
        }

        @Says("HOURS: how many HOURS at most can be MADE of them.")
        static void theFirstThatFitsIsNotAlwaysOfTheMost() {
            joinIs(behindNight("p10 1;p20 1;p30 1;p50 1;p40 1;", 31), 7, 0, 2);
        }

        @Says("HOURS: how many HOURS at most can be MADE of them.")
        static void hoursOf59Or61MinutesAreNone() {
            joinIs(behindNight("p29 1;p30 1;", 3), 3, 1, 0);
            due("61", behindNight("p31 1;p30 1;", 3).join(2), 0);
            due("120", behindNight("p50 1;p50 1;p20 1;", 7).join(2), 0);
        }

        @Says("(As things are NOW; nothing is changed.)")
        static void nothingIsChanged() {
            SmashedHours x = behindNight("p20 1;p40 1;", 3);
            changesNothing(x, "join(0)", () -> x.join(0), 3);
            changesNothing(x, "join(2)", () -> x.join(2), 1);
        }

        @Says("BITS: which (what = 0, bits)")
        static void whatWasJoinedIsNotAmongThem() {
            SmashedHours x = behindNight("p20 1;p40 1;p15 1;", 7);
            x.joins(3);
            joinIs(x, 1, 45, 0);
        }
    }

    static final class Promise22Tells extends Checks {
        private static final String TWO = "p20 3;p40 2;w0 1;w1 0;";

        @Says({"BAD (one of both is not in the set, too)", "with a set of PEOPLE (bits; one at least)"})
        static void anEmptySetIsBad() {
            SmashedHours x = of(TWO);
            refused(x, "tells(0, 0, 0)", () -> x.tells(0, 0, 0), BAD);
        }

        @Says("BAD (one of both is not in the set, too)")
        static void setMinus1IsBad() {
            SmashedHours x = of(TWO);
            refused(x, "tells(-1, 0, 1)", () -> x.tells(-1, 0, 1), BAD);
        }

        @Says("BAD (one of both is not in the set, too)")
        static void aSetWithOneWhoIsNotThereIsBad() {
            SmashedHours x = of(TWO);
            refused(x, "tells(4, 0, 1)", () -> x.tells(4, 0, 1), BAD);
            due("tells(7, 0, 1)", x.tells(7, 0, 1), BAD);
            due("tells(3, 0, 1)", x.tells(3, 0, 1), 1);
        }

        @Says("BAD (one of both is not in the set, too)")
        static void personMinus1AndTheNextAreBad() {
            SmashedHours x = of(TWO);
            refused(x, "tells(3, -1, 0)", () -> x.tells(3, -1, 0), BAD);
            due("tells(3, 2, 0)", x.tells(3, 2, 0), BAD);
        }

        @Says("BAD (one of both is not in the set, too)")
        static void hourMinus1AndTheNextAreBad() {
            SmashedHours x = of(TWO);
            refused(x, "tells(3, 0, -1)", () -> x.tells(3, 0, -1), BAD);
            due("tells(3, 0, 2)", x.tells(3, 0, 2), BAD);
            due("tells(3, 0, NONE)", x.tells(3, 0, NONE), BAD);
        }

        @Says("BAD (one of both is not in the set, too)")
        static void aPersonWhoIsNotInTheSetIsBad() {
            SmashedHours x = of(TWO);
            refused(x, "tells(2, 0, 1)", () -> x.tells(2, 0, 1), BAD);
        }

        @Says("BAD (one of both is not in the set, too)")
        static void anHourThatIsNotInTheSetIsBad() {
            SmashedHours x = of(TWO);
            refused(x, "tells(1, 0, 1)", () -> x.tells(1, 0, 1), BAD);
        }

        @Says("BAD (one of both is not in the set, too)")
        static void farNumbersAreBad() {
            SmashedHours x = of(TWO);
            for (int far : FAR) {
                due("tells(" + (far | 3) + ", 0, 1)", x.tells(far | 3, 0, 1), BAD);
                due("tells(3, " + far + ", 1)", x.tells(3, far, 1), BAD);
                due("tells(3, 0, " + far + ")", x.tells(3, 0, far), BAD);
            }
            due("count(1)", x.count(1), 0);
        }

        @Says("TOLD: how much there is.")
        static void oneAloneWithHisOwnHourMayBeTold() {
            due("tells(1, 0, 0)", of("p20 3;").tells(1, 0, 0), 1);
        }

        @Says("TOLD: how much there is.")
        static void allSixMayBeTold() {
            SmashedHours x = of(people(6));
            due("tells(63, 5, 0)", x.tells(63, 5, 0), 1);
            due("tells(32, 5, 5)", x.tells(32, 5, 5), 2);
        }

        @Says({"FULL.", "TOLD (6 at most)"})
        static void theSixthIsToldAndTheSeventhIsFull() {
            SmashedHours x = of(TWO);
            for (int i = 1; i <= 6; i++) {
                due("tells() " + i, x.tells(3, 0, 1), i);
            }
            refused(x, "tells(3, 0, 0)", () -> x.tells(3, 0, 0), FULL);
        }

        @Says({"BAD (one of both is not in the set, too)", "the first of these: BAD (a number is not as told, or there is no such thing), STATE (as told), FULL."})
        static void badGoesAheadOfFull() {
            SmashedHours x = of(TWO);
            for (int i = 1; i <= 6; i++) {
                x.tells(3, 0, 1);
            }
            due("tells(0, 0, 1)", x.tells(0, 0, 1), BAD);
            due("tells(4, 0, 1)", x.tells(4, 0, 1), BAD);
            due("tells(3, 2, 1)", x.tells(3, 2, 1), BAD);
            due("tells(1, 0, 1)", x.tells(1, 0, 1), BAD);
            due("tells(2, 0, 1)", x.tells(2, 0, 1), BAD);
        }

        @Says("TOLD: how much there is.")
        static void whoHasNoHourNowMayBeTold() {
            due("tells(3, 0, 1)", behindNight("p20 1;p40 1;", 3).tells(3, 0, 1), 1);
        }
    }

    static final class Promise23Forget extends Checks {
        @Says("Nothing is TOLD: how much was.")
        static void nothingToldIs0() {
            SmashedHours x = of("p20 3;");
            changesNothing(x, "forget()", x::forget, 0);
        }

        @Says("Nothing is TOLD: how much was.")
        static void sixToldAre6AndThen0() {
            SmashedHours x = of("p20 3;");
            for (int i = 1; i <= 6; i++) {
                x.tells(1, 0, 0);
            }
            due("forget()", x.forget(), 6);
            due("count(1)", x.count(1), 0);
            due("fits()", x.fits(), 7);
            due("forget() again", x.forget(), 0);
        }

        @Says("Nothing is TOLD: how much was.")
        static void behindItOneIsToldAsTheFirst() {
            SmashedHours x = of("p20 3;w0 0;");
            for (int i = 1; i <= 6; i++) {
                x.tells(1, 0, 0);
            }
            x.forget();
            due("tells(1, 0, 0)", x.tells(1, 0, 0), 1);
        }
    }

    static final class Promise24Fits extends Checks {
        // By law 0 person 0 has the hour of 3, by law 1 of 2, by law 2 of 1.
        private static final String FOUR = "p30 1;p31 1;p29 1;p40 1;w0 3 2 1;w1 0;w2 0;w3 0;";

        @Says("FITS, as bits.")
        static void nothingToldFitsAllLaws() {
            SmashedHours x = of(FOUR);
            changesNothing(x, "fits()", x::fits, 7);
        }

        @Says("FITS, as bits.")
        static void whatNoLawMakesFitsNone() {
            SmashedHours x = of("p20 1;");
            x.tells(1, 0, 0);
            due("fits()", x.fits(), 0);
        }

        @Says("LAWS (bits 0 .. 2) by which all that was TOLD is so")
        static void eachLawAlone() {
            for (int law = 0; law <= 2; law++) {
                SmashedHours x = of(FOUR);
                x.tells(15, 0, 3 - law);
                due("fits() of law " + law, x.fits(), 1 << law);
            }
        }

        @Says("LAWS (bits 0 .. 2) by which all that was TOLD is so")
        static void allOfItMustBeSo() {
            SmashedHours x = of(FOUR);
            x.tells(3, 0, 1);
            due("fits()", x.fits(), 7);
            x.tells(7, 0, 2);
            due("fits() of both", x.fits(), 3);
            x.tells(15, 0, 3);
            due("fits() of three", x.fits(), 1);
            x.tells(15, 0, 2);
            due("fits() of what can not be", x.fits(), 0);
        }

        @Says("LAWS (bits 0 .. 2) by which all that was TOLD is so")
        static void theSixthToldIsLookedAtToo() {
            SmashedHours x = of(FOUR);
            for (int i = 1; i <= 5; i++) {
                x.tells(3, 0, 1);
            }
            due("fits() of five", x.fits(), 7);
            x.tells(15, 0, 1);
            due("fits() of six", x.fits(), 4);
        }

        @Says("each with his own HOUR")
        static void whatTheyHaveNowIsNoMatter() {
            SmashedHours x = behindNight(FOUR, 15);
            x.tells(15, 0, 2);
            changesNothing(x, "fits()", x::fits, 2);
        }

        @Says("each with his own HOUR")
        static void theLawOfNowIsNoMatter() {
            SmashedHours x = of(FOUR);
            x.tells(15, 0, 2);
            x.laws(2);
            due("fits()", x.fits(), 2);
        }

        @Says("one of these had the HOUR of one of these")
        static void itIsTheOneWhoIsTold() {
            SmashedHours x = of(FOUR);
            x.tells(15, 2, 0);
            due("fits()", x.fits(), 2);
            x.forget();
            x.tells(15, 1, 0);
            due("fits() of another", x.fits(), 4);
        }

        @Says("one of these had the HOUR of one of these")
        static void theLastTwoOfSixMayBeTold() {
            SmashedHours x = of(people(6) + "w4 5;w5 4;");
            x.tells(48, 4, 5);
            x.tells(63, 5, 4);
            due("fits()", x.fits(), 7);
            x.tells(48, 4, 4);
            due("fits() of what can not be", x.fits(), 0);
        }

        @Says("one of these had the HOUR of one of these")
        static void hisOwnHourIsHadByARingOfOne() {
            SmashedHours x = of("p20 1;w0 0;");
            x.tells(1, 0, 0);
            due("fits()", x.fits(), 7);
        }
    }

    static final class Promise25Stop extends Checks {
        private static void stopIs(int n, int tenths, int v, int c, int upper, int lower) {
            SmashedHours x = new SmashedHours();
            String call = "stop(" + n + ", " + tenths + ", " + v + ", " + c;
            due(call + ", 0)", x.stop(n, tenths, v, c, 0), upper);
            due(call + ", 1)", x.stop(n, tenths, v, c, 1), lower);
        }

        private static void stopIsBad(int n, int tenths, int v, int c, int what) {
            SmashedHours x = of("p20 1;");
            String call = "stop(" + n + ", " + tenths + ", " + v + ", " + c + ", " + what + ")";
            refused(x, call, () -> x.stop(n, tenths, v, c, what), BAD);
        }

        @Says({"BAD.", "STOP by n (0 .. 5) nights at most"})
        static void nMinus1And6AreBad() {
            stopIsBad(-1, 5, 20, 8, 0);
            stopIsBad(6, 5, 20, 8, 0);
        }

        @Says({"BAD.", "x (0 .. 10)"})
        static void xMinus1And11AreBad() {
            stopIsBad(3, -1, 20, 8, 0);
            stopIsBad(3, 11, 20, 8, 0);
        }

        @Says({"BAD.", "v (0 .. 99)"})
        static void vMinus1And100AreBad() {
            stopIsBad(3, 5, -1, 8, 0);
            stopIsBad(3, 5, 100, 8, 0);
        }

        @Says({"BAD.", "c (0 .. 99)"})
        static void cMinus1And100AreBad() {
            stopIsBad(3, 5, 20, -1, 0);
            stopIsBad(3, 5, 20, 100, 0);
        }

        @Says({"BAD.", "lower number (1)"})
        static void whatMinus1And2AreBad() {
            stopIsBad(3, 5, 20, 8, -1);
            stopIsBad(3, 5, 20, 8, 2);
        }

        @Says("BAD.")
        static void eachNumberIsLookedAtEvenWhenItIsNoMatter() {
            stopIsBad(0, 11, 0, 0, 0);
            stopIsBad(0, 0, 100, 0, 0);
            stopIsBad(0, 0, 0, 100, 0);
            stopIsBad(0, 0, 0, 0, 2);
        }

        @Says("BAD.")
        static void farNumbersAreBad() {
            for (int far : FAR) {
                stopIsBad(far, 5, 20, 8, 0);
                stopIsBad(3, far, 20, 8, 0);
                stopIsBad(3, 5, 20, 8, far);
                if (far < 0 || far > 99) {
                    stopIsBad(3, 5, far, 8, 0);
                    stopIsBad(3, 5, 20, far, 0);
                }
            }
        }

        @Says("STOP by n (0 .. 5) nights at most")
        static void noNightsAreWorth0By1() {
            stopIs(0, 10, 99, 0, 0, 1);
        }

        @Says("STOP by n (0 .. 5) nights at most")
        static void oneNightIsWorthItsMean() {
            stopIs(1, 3, 7, 2, 1, 10);
            stopIs(1, 10, 99, 0, 99, 1);
        }

        @Says("STOP by n (0 .. 5) nights at most")
        static void fiveNightsAreTheMost() {
            stopIs(4, 1, 99, 0, 340461, 10000);
            stopIs(5, 1, 99, 0, 4054149, 100000);
        }

        @Says("x (0 .. 10)")
        static void byX0NothingComes() {
            stopIs(5, 0, 99, 0, 0, 1);
            stopIs(5, 0, 99, 1, 0, 1);
        }

        @Says("x (0 .. 10)")
        static void byX10TheFirstNightIsTheLast() {
            stopIs(5, 10, 99, 98, 1, 1);
            stopIs(5, 10, 50, 20, 30, 1);
        }

        @Says("he may stop ahead of any")
        static void whatCostsMoreThanItBringsIsWorth0By1() {
            stopIs(5, 10, 98, 99, 0, 1);
            stopIs(5, 5, 10, 6, 0, 1);
            stopIs(5, 10, 0, 99, 0, 1);
        }

        @Says("he may stop ahead of any")
        static void whatCostsAsMuchAsItBringsIsWorth0By1() {
            stopIs(5, 10, 99, 99, 0, 1);
            stopIs(5, 5, 10, 5, 0, 1);
            stopIs(5, 10, 0, 0, 0, 1);
        }

        @Says("in least terms")
        static void fractionsAreInLeastTerms() {
            stopIs(2, 5, 20, 8, 3, 1);
            stopIs(3, 5, 20, 8, 7, 2);
            stopIs(1, 5, 1, 0, 1, 2);
        }

        @Says("v (0 .. 99)")
        static void theLargestNumbersDoNotWrapAround() {
            stopIs(5, 9, 99, 0, 9899901, 100000);
            stopIs(5, 9, 99, 1, 9788791, 100000);
        }
    }

    static final class Promise26Rate extends Checks {
        private static final String TWO = "p20 3;p1 9;w0 1 0;w1 0;";

        @Says({"NO: BAD.", "`NO = -1000000`: What none is, where a number may be below 0."})
        static void kindMinus1IsNo() {
            SmashedHours x = of(TWO);
            refused(x, "rate(-1, 0)", () -> x.rate(-1, 0), NO);
        }

        @Says("NO: BAD.")
        static void kind5IsTheLastAnd6IsNo() {
            SmashedHours x = of(TWO);
            due("rate(5, 0)", x.rate(5, 0), 20);
            refused(x, "rate(6, 0)", () -> x.rate(6, 0), NO);
        }

        @Says("NO: BAD.")
        static void personMinus1IsNo() {
            SmashedHours x = of(TWO);
            refused(x, "rate(0, -1)", () -> x.rate(0, -1), NO);
        }

        @Says("NO: BAD.")
        static void theNextPersonIsNo() {
            SmashedHours x = of(TWO);
            due("rate(0, 1)", x.rate(0, 1), 1);
            refused(x, "rate(0, 2)", () -> x.rate(0, 2), NO);
        }

        @Says("NO: BAD.")
        static void nobodyIsNo() {
            SmashedHours x = new SmashedHours();
            for (int kind = 0; kind <= 5; kind++) {
                due("rate(" + kind + ", 0)", x.rate(kind, 0), NO);
            }
        }

        @Says("NO: BAD.")
        static void farNumbersAreNo() {
            SmashedHours x = of(TWO);
            for (int far : FAR) {
                due("rate(" + far + ", 0)", x.rate(far, 0), NO);
                due("rate(0, " + far + ")", x.rate(0, far), NO);
            }
            due("trace()", x.trace(), 0);
        }

        @Says("RIVER up, and how many WANT it (10)")
        static void riverThatNobodyWantsAndThatAllSixWant() {
            SmashedHours x = of("p60 1;" + people(5) + "w0 0;w1 0;w2 0;w3 0;w4 0;w5 0;");
            due("rate(1, 0)", x.rate(1, 0), 66);
            due("rate(1, 1)", x.rate(1, 1), 1);
        }

        @Says("BAND up less NIGHTS that PERSON has left (100)")
        static void bandMayBeBelow0() {
            due("rate(2, 1)", of(TWO).rate(2, 1), -8);
        }

        @Says("BAND up less NIGHTS that PERSON has left (100)")
        static void bandOfNoNightsLeft() {
            SmashedHours x = behindNight("p20 1;w0 0;", 1);
            due("rate(2, 0)", x.rate(2, 0), 20);
        }

        @Says("DENTIST twice up (1000)")
        static void dentistOfTheMost() {
            SmashedHours x = of("p60 1;" + people(5) + "w0 0;w1 0;w2 0;w3 0;w4 0;w5 0;");
            due("rate(3, 0)", x.rate(3, 0), 132);
        }

        @Says("WIDOW up, and who HAS it (10 more: nobody) (10000)")
        static void widowThatNobodyHas() {
            due("rate(4, 0)", behindNight("p20 3;", 1).rate(4, 0), 28);
        }

        @Says("WIDOW up, and who HAS it (10 more: nobody) (10000)")
        static void widowThat0HasAndThat5Has() {
            SmashedHours x = behindNight("p20 3;" + people(4) + "p30 2;w0 5;w5 0;", 33);
            due("rate(4, 0)", x.rate(4, 0), 20 - 2 + 5);
            due("rate(4, 5)", x.rate(4, 5), 30 - 1 + 0);
        }

        @Says("MINUTE up, and NIGHTS gone by (100000)")
        static void minuteOfNoNightAndOfOne() {
            SmashedHours x = of(TWO);
            due("rate(5, 0)", x.rate(5, 0), 20);
            x.night();
            due("rate(5, 0) behind a night", x.rate(5, 0), 21);
        }
    }

    static final class Promise27Keep extends Checks {
        @Says("BAD.")
        static void imageMinus1IsBad() {
            SmashedHours x = of("p20 3;");
            refused(x, "keep(-1)", () -> x.keep(-1), BAD);
        }

        @Says({"BAD.", "IMAGES 0, 1 keep NOW"})
        static void image1IsTheLastAnd2IsBad() {
            SmashedHours x = of("p20 3;");
            due("keep(1)", x.keep(1), 0);
            refused(x, "keep(2)", () -> x.keep(2), BAD);
        }

        @Says("BAD.")
        static void farNumbersAreBad() {
            SmashedHours x = of("p20 3;");
            for (int far : FAR) {
                due("keep(" + far + ")", x.keep(far), BAD);
            }
            due("back(0)", x.back(0), STATE);
            due("back(1)", x.back(1), STATE);
        }

        @Says("An IMAGE is kept: NIGHTS gone by.")
        static void keepChangesNothingNow() {
            SmashedHours x = given("p20 3;", 1);
            changesNothing(x, "keep(0)", () -> x.keep(0), 0);
            x.night();
            changesNothing(x, "keep(0) behind a night", () -> x.keep(0), 1);
        }

        @Says("An IMAGE is kept: NIGHTS gone by.")
        static void keptAgainIsTheLater() {
            SmashedHours x = of("p20 3;");
            x.keep(0);
            x.night();
            x.keep(0);
            x.night();
            due("back(0)", x.back(0), 1);
        }

        @Says("An IMAGE is kept: NIGHTS gone by.")
        static void nobodyMayBeKept() {
            SmashedHours x = new SmashedHours();
            due("keep(0)", x.keep(0), 0);
            due("back(0)", x.back(0), 0);
        }
    }

    static final class Promise28Back extends Checks {
        @Says("BAD;")
        static void imageMinus1And2AreBad() {
            SmashedHours x = given("p20 3;", 1);
            x.keep(0);
            x.keep(1);
            refused(x, "back(-1)", () -> x.back(-1), BAD);
            refused(x, "back(2)", () -> x.back(2), BAD);
        }

        @Says("BAD;")
        static void farNumbersAreBad() {
            SmashedHours x = given("p20 3;", 1);
            x.keep(0);
            for (int far : FAR) {
                due("back(" + far + ")", x.back(far), BAD);
            }
            due("now(6)", x.now(6), 1);
        }

        @Says({"BAD;", "the first of these: BAD (a number is not as told, or there is no such thing), STATE (as told), FULL."})
        static void badGoesAheadOfState() {
            due("back(2)", new SmashedHours().back(2), BAD);
        }

        @Says("STATE: none was kept.")
        static void whereNoneWasKeptIsState() {
            SmashedHours x = given("p20 3;", 1);
            refused(x, "back(0)", () -> x.back(0), STATE);
            refused(x, "back(1)", () -> x.back(1), STATE);
        }

        @Says("STATE: none was kept.")
        static void theOtherImageIsNotThisOne() {
            SmashedHours x = given("p20 3;", 1);
            x.keep(0);
            refused(x, "back(1)", () -> x.back(1), STATE);
        }

        @Says("STATE: none was kept.")
        static void whatIsRefusedLeavesWhatMayBeUndone() {
            SmashedHours x = given("p20 3;", 1);
            x.back(0);
            due("undo()", x.undo(), 0);
        }

        @Says("(who HAS which, NIGHTS left, THE SILK, BITS, HOURS MADE, nights gone by, LAW); nothing else")
        static void allOfThatBecomesAsTheImageHasIt() {
            SmashedHours x = behindNight("p20 3;p40 3;p7 3;p5 3;w3 3;l1;", 3);
            x.gives(3);
            x.keep(1);
            x.takes(3);
            x.gives(2);
            x.night();
            x.joins(3);
            x.laws(2);
            due("back(1)", x.back(1), 1);
            nowIs("the image", x, 1, 8, 2, 0, 1, 12, 0);
            bitsAre("the image", x, 20, 40);
            due("person(2, 1)", x.person(2, 1), 3);
            due("person(2, 2)", x.person(2, 2), 2);
            due("person(0, 2)", x.person(0, 2), NONE);
        }

        @Says("(who HAS which, NIGHTS left, THE SILK, BITS, HOURS MADE, nights gone by, LAW); nothing else")
        static void toldTextAndTraceAreNoImages() {
            SmashedHours x = of("p20 3;");
            x.keep(0);
            x.tells(1, 0, 0);
            x.type('p');
            x.rate(0, 0);
            x.back(0);
            due("count(1)", x.count(1), 1);
            due("count(2)", x.count(2), 1);
            due("trace()", x.trace(), 1);
        }

        @Says("(nothing can be UNDONE behind back())")
        static void nothingCanBeUndoneBehindIt() {
            SmashedHours x = given("p20 3;p30 3;", 3);
            x.keep(0);
            x.back(0);
            due("now(6)", x.now(6), 0);
            due("undo()", x.undo(), STATE);
        }

        @Says("All of that becomes as an IMAGE has it: NIGHTS gone by.")
        static void anImageMayBeTakenTwice() {
            SmashedHours x = given("p20 3;", 1);
            x.keep(0);
            x.night();
            due("back(0)", x.back(0), 0);
            x.night();
            due("back(0) again", x.back(0), 0);
            due("now(1)", x.now(1), 1);
        }

        @Says("All of that becomes as an IMAGE has it: NIGHTS gone by.")
        static void anImageBehindMayBeAhead() {
            SmashedHours x = of("p20 3;");
            x.keep(0);
            x.night();
            x.keep(1);
            due("back(0)", x.back(0), 0);
            due("back(1)", x.back(1), 1);
        }

        @Says("All of that becomes as an IMAGE has it: NIGHTS gone by.")
        static void whatIsDoneBehindItIsNotInTheImage() {
            SmashedHours x = of("p20 3;");
            x.keep(0);
            x.back(0);
            x.gives(0);
            x.night();
            due("back(0)", x.back(0), 0);
            due("person(0, 2)", x.person(0, 2), 0);
            due("person(0, 1)", x.person(0, 1), 3);
        }
    }

    static final class Promise29Count extends Checks {
        @Says("BAD.")
        static void whatMinus1IsBad() {
            SmashedHours x = of("p20 3;");
            refused(x, "count(-1)", () -> x.count(-1), BAD);
        }

        @Says({"2 letters of THE TEXT.", "BAD."})
        static void what2IsTheLastAnd3IsBad() {
            SmashedHours x = of("p20 3;");
            x.type('p');
            due("count(2)", x.count(2), 1);
            due("count(3)", x.count(3), BAD);
        }

        @Says("BAD.")
        static void farNumbersAreBad() {
            SmashedHours x = of("p20 3;");
            for (int far : FAR) {
                due("count(" + far + ")", x.count(far), BAD);
            }
        }

        @Says("0 PEOPLE, 1 TOLD, 2 letters of THE TEXT.")
        static void noneOfEach() {
            SmashedHours x = new SmashedHours();
            due("count(0)", x.count(0), 0);
            due("count(1)", x.count(1), 0);
            due("count(2)", x.count(2), 0);
        }

        @Says("0 PEOPLE, 1 TOLD, 2 letters of THE TEXT.")
        static void theMostOfEach() {
            SmashedHours x = of(people(6));
            for (int i = 1; i <= 7; i++) {
                x.tells(1, 0, 0);
            }
            say(x, blanks(151));
            due("count(0)", x.count(0), 6);
            due("count(1)", x.count(1), 6);
            due("count(2)", x.count(2), 150);
        }
    }

    static final class Promise30Trace extends Checks {
        @Says({"THE TRACE.", "THE TRACE, 0 at first"})
        static void is0AtFirst() {
            due("new", new SmashedHours().trace(), 0);
            due("told", of("p20 3;").trace(), 0);
        }

        @Says("as often as rate() asks that body: each once")
        static void eachKindOnce() {
            long[] marks = {1, 11, 101, 1011, 10101, 100001};
            for (int kind = 0; kind <= 5; kind++) {
                SmashedHours x = of("p20 3;");
                x.rate(kind, 0);
                due("trace() of kind " + kind, x.trace(), marks[kind]);
                x.rate(kind, 0);
                due("trace() of kind " + kind + " twice", x.trace(), 2 * marks[kind]);
            }
        }

        @Says("as often as rate() asks that body: each once")
        static void aRefusedRateAddsNothing() {
            SmashedHours x = of("p20 3;");
            x.rate(6, 0);
            x.rate(-1, 0);
            x.rate(5, 1);
            x.rate(5, -1);
            due("trace()", x.trace(), 0);
        }

        @Says("THE TRACE.")
        static void nothingTakesItBack() {
            SmashedHours x = given("p20 3;", 1);
            x.keep(0);
            x.rate(5, 0);
            x.undo();
            x.back(0);
            x.clear();
            x.forget();
            x.house();
            changesNothing(x, "trace()", () -> (int) x.trace(), 100001);
        }

        @Says("THE TRACE.")
        static void theMostThatCallsCanAdd() {
            SmashedHours x = of("p20 3;");
            for (int i = 1; i <= 500; i++) {
                x.rate(5, 0);
            }
            due("trace()", x.trace(), 50000500L);
        }
    }
}
