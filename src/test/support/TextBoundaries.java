/** The text (first part of the Terms), and promises 1 to 4. */
final class TextBoundaries {
    private TextBoundaries() {
    }

    static final class WhatItIs extends Checks {
        @Says("An object is used for at most 512 calls after it has been made")
        static void the512thCallIsAnsweredAsTheFirst() {
            SmashedHours x = new SmashedHours();
            for (int i = 1; i <= 511; i++) {
                due("night " + i, x.night(), 0);
            }
            due("now(0), the 512th call", x.now(0), 511);
        }

        @Says("An object is used for at most 512 calls after it has been made")
        static void aTextMayBeReadByTheLastCalls() {
            SmashedHours x = new SmashedHours();
            for (int i = 1; i <= 511 - 150; i++) {
                x.night();
            }
            say(x, people(6) + blanks(120));
            due("house(), the 512th call", x.house(), 6);
        }
    }

    static final class ThePublicFace extends Checks {
        @Says("public static final int BAD = -1, STATE = -2, FULL = -3, NONE = -9;")
        static void theAnswersOfRefusalAndOfNone() {
            due("SmashedHours.BAD", SmashedHours.BAD, BAD);
            due("SmashedHours.STATE", SmashedHours.STATE, STATE);
            due("SmashedHours.FULL", SmashedHours.FULL, FULL);
            due("SmashedHours.NONE", SmashedHours.NONE, NONE);
        }

        @Says({"public static final int NO = -1000000;", "`NO = -1000000`: What none is, where a number may be below 0."})
        static void whatNoneIsWhereANumberMayBeBelow0() {
            due("SmashedHours.NO", SmashedHours.NO, NO);
        }
    }

    static final class TermsPeople extends Checks {
        @Says("(6 at most)")
        static void sixPeopleAreRead() {
            due("count(0)", reads(people(6), 6).count(0), 6);
        }

        @Says({"(6 at most)", "a seventh p"})
        static void aSeventhPIsTheFault() {
            faultAt(30, people(7));
            faultAt(32, people(6) + "  p");
            faultAt(35, people(6) + "w5 5;p1 1;");
        }

        @Says("(6 at most)")
        static void sixAgainInTheNextText() {
            SmashedHours x = of(people(6));
            say(x, people(6));
            due("house()", x.house(), 6);
        }

        @Says("WEIGHT of the HOUR each lost (1 .. 60 minutes)")
        static void weight1IsTheLeast() {
            due("person(0, 0)", reads("p1 5;", 1).person(0, 0), 1);
        }

        @Says("WEIGHT of the HOUR each lost (1 .. 60 minutes)")
        static void weight60IsTheLargest() {
            due("person(0, 0)", reads("p60 5;", 1).person(0, 0), 60);
        }

        @Says({"WEIGHT of the HOUR each lost (1 .. 60 minutes)", "a NUMBER beyond what it may be"})
        static void weight0IsTheFault() {
            faultAt(1, "p0 5;");
        }

        @Says({"WEIGHT of the HOUR each lost (1 .. 60 minutes)", "a NUMBER beyond what it may be"})
        static void weight61IsTheFault() {
            faultAt(1, "p61 5;");
            faultAt(1, "p99 5;");
        }

        @Says("NIGHTS (1 .. 9) that he may give")
        static void nights1IsTheLeast() {
            due("person(0, 1)", reads("p20 1;", 1).person(0, 1), 1);
        }

        @Says("NIGHTS (1 .. 9) that he may give")
        static void nights9IsTheMost() {
            SmashedHours x = reads("p20 9;w0 0;", 2);
            due("person(0, 1)", x.person(0, 1), 9);
            for (int i = 1; i <= 9; i++) {
                due("gives(0) " + i, x.gives(0), 1);
                x.night();
            }
            due("gives(0) a tenth time", x.gives(0), STATE);
        }

        @Says({"NIGHTS (1 .. 9) that he may give", "a NUMBER beyond what it may be"})
        static void nights0IsTheFault() {
            faultAt(4, "p20 0;");
        }

        @Says({"NIGHTS (1 .. 9) that he may give", "a NUMBER beyond what it may be"})
        static void nights10IsTheFault() {
            faultAt(4, "p20 10;");
        }

        @Says({"WANTS: a row of 0 .. 4 unlike PEOPLE", "w A and 0 to 4 PEOPLE"})
        static void noWantsMayBeTold() {
            SmashedHours x = reads("p1 1;w0;", 2);
            due("person(0, 4)", x.person(0, 4), 0);
            due("wants(0, 0)", x.wants(0, 0), NONE);
        }

        @Says("WANTS: a row of 0 .. 4 unlike PEOPLE")
        static void whoseWantsAreNotToldHasNone() {
            due("person(0, 4)", reads("p1 1;", 1).person(0, 4), 0);
        }

        @Says({"WANTS: a row of 0 .. 4 unlike PEOPLE", "w A and 0 to 4 PEOPLE"})
        static void fourWantsMayBeTold() {
            SmashedHours x = reads(people(6) + "w5 5 0 4 1;", 7);
            due("person(5, 4)", x.person(5, 4), 4);
            int[] row = {5, 0, 4, 1};
            for (int k = 0; k < 4; k++) {
                due("wants(5, " + k + ")", x.wants(5, k), row[k]);
            }
        }

        @Says("a fifth of WANTS")
        static void aFifthOfWantsIsTheFault() {
            faultAt(41, people(6) + "w0 1 2 3 4 5;");
            faultAt(41, people(6) + "w0 1 2 3 4 1;");
            faultAt(41, people(6) + "w0 1 2 3 4 9;");
        }

        @Says("LAW (0 .. 2; 0 at first)")
        static void lawIs0AtFirst() {
            due("new now(4)", new SmashedHours().now(4), 0);
            due("untold now(4)", of("p1 1;").now(4), 0);
        }

        @Says("LAW (0 .. 2; 0 at first)")
        static void lawIs0AgainWhenTheNextTextTellsNone() {
            SmashedHours x = of("l2;");
            due("now(4)", x.now(4), 2);
            x.house();
            due("now(4) anew", x.now(4), 0);
        }

        @Says("LAW (0 .. 2; 0 at first)")
        static void laws0To2MayBeTold() {
            for (int law = 0; law <= 2; law++) {
                due("now(4)", reads("l" + law + ";", 1).now(4), law);
            }
        }

        @Says({"LAW (0 .. 2; 0 at first)", "a NUMBER beyond what it may be"})
        static void law3IsTheFault() {
            faultAt(1, "l3;");
            faultAt(1, "l10;");
        }
    }

    static final class TermsText extends Checks {
        @Says("They are a text (150 letters at most)")
        static void theItemThatEndsWithThe150thLetterIsRead() {
            reads("p1 1;" + blanks(142) + "w0;", 2);
        }

        @Says("They are a text (150 letters at most)")
        static void aTextFullOfItemsIsRead() {
            reads("l0;p1 1;" + "w0;".repeat(47), 49);
        }

        @Says("blanks (32) between TOKENS")
        static void manyBlanksMayStandBetweenTokens() {
            reads("   p   60   9   ;   w   0   0   ;   l   2   ;   ", 3);
        }

        @Says("blanks (32) between TOKENS")
        static void noBlankIsNeededWhereTokensPart() {
            SmashedHours x = reads("p60 9;w0 0;l2;", 3);
            due("person(0, 0)", x.person(0, 0), 60);
        }

        @Says("blanks (32) between TOKENS")
        static void numbersWithoutABlankAreOne() {
            faultAt(3, "p11;");
            faultAt(1, "p601;");
            faultAt(18, people(3) + "w0 12;");
        }

        @Says("blanks (32) between TOKENS")
        static void aBlankPartsANumber() {
            faultAt(5, "p2 1 5;");
            faultAt(3, "p2 0;");
        }

        @Says({"blanks (32) between TOKENS", "of any other letter"})
        static void noOtherSignIsABlank() {
            for (int sign : new int[] {0, 9, 10, 13, 31, 33, 160}) {
                faultAt(2, "p1" + (char) sign + "1;");
            }
        }

        @Says("ITEMS, each ended by ;")
        static void anItemThatIsNotEndedIsTheFault() {
            faultAt(4, "p1 1p1 1;");
            faultAt(5, "p1 1 w0;");
            faultAt(8, "p1 1;w0 l1;");
            faultAt(2, "l1p1 1;");
        }

        @Says("ITEMS, each ended by ;")
        static void anItemWithoutAnythingIsTheFault() {
            faultAt(0, ";");
            faultAt(5, "p1 1;;");
            faultAt(6, "p1 1; ; w0;");
        }

        @Says("p W N (a PERSON)")
        static void aPersonWithTooFewNumbersIsTheFault() {
            faultAt(1, "p;");
            faultAt(3, "p20;");
        }

        @Says("p W N (a PERSON)")
        static void aPersonWithTooManyNumbersIsTheFault() {
            faultAt(6, "p20 1 1;");
        }

        @Says("all told ahead")
        static void wantsOfAPersonNotToldYetAreTheFault() {
            faultAt(1, "w0;p1 1;");
            faultAt(6, "p1 1;w1;p1 1;");
        }

        @Says("all told ahead")
        static void aWantOfAPersonNotToldYetIsTheFault() {
            faultAt(8, "p1 1;w0 1;p1 1;");
            faultAt(15, "p1 1;p1 1;w0 1 2;p1 1;");
        }

        @Says("w A and 0 to 4 PEOPLE")
        static void wantsOfNobodyAreTheFault() {
            faultAt(6, "p1 1;w;");
        }

        @Says("a PERSON that there is not")
        static void aPersonThatThereIsNotIsTheFault() {
            faultAt(31, people(6) + "w6;");
            faultAt(33, people(6) + "w0 6;");
            faultAt(33, people(6) + "w0 99;");
        }

        @Says("or a second time")
        static void aPersonASecondTimeIsTheFault() {
            faultAt(10, "p1 1;w0 0 0;");
            faultAt(37, people(6) + "w5 3 4 3;");
            faultAt(39, people(6) + "w5 3 4 5 3;");
        }

        @Says("unlike; his own HOUR may be among them")
        static void hisOwnHourMayBeAmongThem() {
            due("wants(0, 0)", reads("p1 1;w0 0;", 2).wants(0, 0), 0);
            due("wants(1, 1)", reads("p1 1;p1 1;w1 0 1;", 3).wants(1, 1), 1);
        }

        @Says("told again: the later")
        static void wantsToldAgainAreTheLater() {
            SmashedHours x = reads("p1 1;p1 1;w0 1 0;w0 0;", 4);
            due("person(0, 4)", x.person(0, 4), 1);
            due("wants(0, 0)", x.wants(0, 0), 0);
            due("wants(0, 1)", x.wants(0, 1), NONE);
        }

        @Says("told again: the later")
        static void wantsToldAgainMayBeNone() {
            SmashedHours x = reads("p1 1;w0 0;w0;", 3);
            due("person(0, 4)", x.person(0, 4), 0);
            due("served(1)", x.served(1), 0);
        }

        @Says("told again: the later")
        static void thoseToldAheadMayBeToldAgain() {
            due("person(0, 4)", reads(people(4) + "w0 0 1 2 3;w0 3 2 1 0;", 6).wants(0, 0), 3);
        }

        @Says("told again: the later")
        static void wantsToldAgainAreCountedAsItems() {
            reads("p1 1;w0;w0;w0;", 4);
        }

        @Says({"l N (LAW; once at most)", "l again"})
        static void lawToldAgainIsTheFault() {
            faultAt(3, "l1;l1;");
            faultAt(9, "l1;p1 1; l2;");
            faultAt(3, "l0;l");
        }

        @Says("l N (LAW; once at most)")
        static void lawMayBeToldOnceInTheNextText() {
            SmashedHours x = of("l1;");
            say(x, "l2;");
            due("house()", x.house(), 1);
            due("now(4)", x.now(4), 2);
        }

        @Says("l N (LAW; once at most)")
        static void lawMayBeToldOnceBehindAFault() {
            SmashedHours x = new SmashedHours();
            say(x, "l1;x");
            due("house()", x.house(), -13);
            x.clear();
            say(x, "l2;");
            due("house() again", x.house(), 1);
        }

        @Says("l N (LAW; once at most)")
        static void lawWithoutOrWithTwoNumbersIsTheFault() {
            faultAt(1, "l;");
            faultAt(3, "l1 1;");
        }
    }

    static final class TermsFault extends Checks {
        @Says("the place of the first letter of the first TOKEN that can't stand there")
        static void theFirstOfTwoFaultsIsTold() {
            faultAt(1, "p0 0;x");
            faultAt(5, "p1 1;xp0 0;");
        }

        @Says("the place of the first letter of the first TOKEN that can't stand there")
        static void blanksCountInItsPlace() {
            faultAt(3, "   x");
            faultAt(9, "  p  1   10  ;");
        }

        @Says("the place of the first letter of the first TOKEN that can't stand there")
        static void thePlaceIsThatOfItsFirstDigit() {
            faultAt(1, "p61 1;");
            faultAt(3, "p1 12345;");
        }

        @Says("TOKENS are the letters p, w, l, NUMBERS and ;")
        static void everyLetterAtTheStart() {
            for (int letter = 0; letter <= 255; letter++) {
                SmashedHours x = new SmashedHours();
                x.type(letter);
                boolean begins = letter == 'p' || letter == 'w' || letter == 'l';
                due("house() of letter " + letter, x.house(), letter == ' ' ? 0 : begins ? -11 : -10);
            }
        }

        @Says("TOKENS are the letters p, w, l, NUMBERS and ;")
        static void everyLetterWhereANumberStands() {
            for (int letter = 0; letter <= 255; letter++) {
                SmashedHours x = new SmashedHours();
                say(x, "l" + (char) letter + "1;");
                due("house() with letter " + letter, x.house(), letter == ' ' ? 1 : -11);
            }
        }

        @Says("of any other letter")
        static void anyOtherLetterIsTheFault() {
            faultAt(0, "P1 1;");
            faultAt(1, "p-1 1;");
            faultAt(2, "p1.1 1;");
            faultAt(4, "p1 1,");
            faultAt(8, "p1 1;w0 \u00ff;");
            faultAt(2, "l1\u0000;");
        }

        @Says("a NUMBER above 99")
        static void aNumberAbove99IsTheFault() {
            faultAt(1, "p100 1;");
            faultAt(4, "p10 100;");
            faultAt(8, "p1 1;w0 100;");
            faultAt(6, "p1 1;w100;");
            faultAt(1, "l100;");
        }

        @Says("a NUMBER above 99")
        static void aNumberThatWrapsAroundIsTheFault() {
            faultAt(1, "p257 1;");
            faultAt(1, "p65537 1;");
            faultAt(1, "p4294967297 1;");
            faultAt(1, "p18446744073709551617 1;");
            faultAt(1, "l4294967296;");
        }

        @Says("a NUMBER above 99")
        static void aNumberAsLongAsTheTextIsTheFault() {
            faultAt(1, "p" + "1".repeat(149));
            faultAt(0, "9".repeat(150));
        }

        @Says("with a 0 ahead of others")
        static void aNumberWithA0AheadIsTheFault() {
            faultAt(1, "p01 1;");
            faultAt(3, "p1 01;");
            faultAt(6, "p1 1;w00;");
            faultAt(8, "p1 1;w0 00;");
            faultAt(1, "l00;");
            faultAt(1, "l02;");
            faultAt(1, "p" + "0".repeat(149));
        }

        @Says("with a 0 ahead of others")
        static void a0AloneOrBehindOthersIsRight() {
            reads("p10 1;w0 0;l0;", 3);
        }

        @Says("the text's length, if it ends too early")
        static void everyStartOfATextThatEndsTooEarly() {
            String text = " p10 1 ; w0 0;l 2;";
            int items = 0;
            boolean open = false;
            for (int length = 0; length <= text.length(); length++) {
                char last = length == 0 ? ' ' : text.charAt(length - 1);
                items += last == ';' ? 1 : 0;
                open = last != ';' && (open || last != ' ');
                SmashedHours x = new SmashedHours();
                say(x, text.substring(0, length));
                due("house() of the first " + length, x.house(), open ? -10 - length : items);
            }
        }

        @Says("the text's length, if it ends too early")
        static void blanksBehindCountInTheLength() {
            faultAt(4, "p   ");
            faultAt(6, "p1 1  ");
        }

        @Says("the text's length, if it ends too early")
        static void aFullTextThatEndsTooEarly() {
            faultAt(150, "p1 1;" + blanks(144) + "w");
            faultAt(150, "p" + blanks(149));
        }

        @Says("the text's length, if it ends too early")
        static void aTokenThatCanNotStandThereGoesAheadOfTheEnd() {
            faultAt(8, "p1 1;w0 1");
            faultAt(1, "p61");
            faultAt(3, "p1 0");
        }

        @Says("the text's length, if it ends too early")
        static void anEmptyTextDoesNotEndTooEarly() {
            reads("", 0);
        }
    }

    static final class Promise01NewObject extends Checks {
        @Says("As told; nobody.")
        static void nobodyIsThere() {
            SmashedHours x = new SmashedHours();
            due("count(0)", x.count(0), 0);
            due("person(0, 0)", x.person(0, 0), BAD);
            due("wants(0, 0)", x.wants(0, 0), BAD);
            due("gives(0)", x.gives(0), BAD);
            due("takes(0)", x.takes(0), BAD);
            due("would(0)", x.would(0), BAD);
            due("get(0, 0)", x.get(0, 0), BAD);
            due("could(0)", x.could(0), BAD);
            due("odds(0, 0, 0)", x.odds(0, 0, 0), BAD);
            due("tells(1, 0, 0)", x.tells(1, 0, 0), BAD);
            due("rate(0, 0)", x.rate(0, 0), NO);
            due("served(1)", x.served(1), BAD);
        }

        @Says({"As told; nobody.", "(none at first)"})
        static void nothingIsThere() {
            SmashedHours x = new SmashedHours();
            nowIs("new", x, 0, 0, 0, 0, 0, 0, 0);
            bitsAre("new", x);
            due("count(1)", x.count(1), 0);
            due("count(2)", x.count(2), 0);
            due("clear()", x.clear(), 0);
            due("forget()", x.forget(), 0);
            due("trace()", x.trace(), 0);
        }

        @Says("As told; nobody.")
        static void whatIsAskedOfNobody() {
            SmashedHours x = new SmashedHours();
            due("served(0)", x.served(0), 0);
            due("most(0)", x.most(0), 0);
            due("most(1)", x.most(1), 0);
            due("could(-1)", x.could(-1), 0);
            due("join(0)", x.join(0), 0);
            due("join(1)", x.join(1), 60);
            due("join(2)", x.join(2), 0);
            due("fits()", x.fits(), 7);
        }

        @Says("As told; nobody.")
        static void whatIsDoneByNobody() {
            SmashedHours x = new SmashedHours();
            due("undo()", x.undo(), STATE);
            due("back(0)", x.back(0), STATE);
            due("back(1)", x.back(1), STATE);
            due("joins(1)", x.joins(1), BAD);
            due("laws(0)", x.laws(0), STATE);
            due("night()", x.night(), 0);
            due("laws(1)", x.laws(1), 0);
            due("undo() of laws", x.undo(), 1);
            due("undo() of night", x.undo(), 0);
        }

        @Says("As told; nobody.")
        static void oneObjectIsNotAnother() {
            SmashedHours x = of("p20 3;l2;");
            SmashedHours y = new SmashedHours();
            x.gives(0);
            due("y.count(0)", y.count(0), 0);
            due("y.now(4)", y.now(4), 0);
            due("y.now(6)", y.now(6), 0);
        }
    }

    static final class Promise02Type extends Checks {
        @Says({"A letter (0 .. 255) comes to THE TEXT", "BAD"})
        static void letterMinus1IsBad() {
            SmashedHours x = new SmashedHours();
            refused(x, "type(-1)", () -> x.type(-1), BAD);
        }

        @Says("A letter (0 .. 255) comes to THE TEXT")
        static void letter0Comes() {
            due("type(0)", new SmashedHours().type(0), 1);
        }

        @Says("A letter (0 .. 255) comes to THE TEXT")
        static void letter255Comes() {
            due("type(255)", new SmashedHours().type(255), 1);
        }

        @Says({"A letter (0 .. 255) comes to THE TEXT", "BAD"})
        static void letter256IsBad() {
            SmashedHours x = new SmashedHours();
            refused(x, "type(256)", () -> x.type(256), BAD);
        }

        @Says({"A letter (0 .. 255) comes to THE TEXT", "BAD"})
        static void aLetterThatWrapsAroundIsBad() {
            SmashedHours x = new SmashedHours();
            for (int far : new int[] {LEAST, LARGEST, 256 + 'p', 'p' - 256, 65536 + 'p', LEAST + 'p'}) {
                due("type(" + far + ")", x.type(far), BAD);
            }
            due("count(2)", x.count(2), 0);
        }

        @Says("FULL.")
        static void the150thLetterComes() {
            SmashedHours x = new SmashedHours();
            for (int i = 1; i <= 150; i++) {
                due("type() " + i, x.type(' '), i);
            }
        }

        @Says("FULL.")
        static void the151stLetterIsFull() {
            SmashedHours x = new SmashedHours();
            say(x, blanks(150));
            refused(x, "type(32)", () -> x.type(' '), FULL);
        }

        @Says("FULL.")
        static void theLetterThatIsRefusedIsNotInTheText() {
            SmashedHours x = new SmashedHours();
            say(x, "p1 1;" + blanks(142) + "w0;x");
            due("house()", x.house(), 2);
        }

        @Says({"BAD; FULL.", "the first of these: BAD (a number is not as told, or there is no such thing), STATE (as told), FULL."})
        static void badGoesAheadOfFull() {
            SmashedHours x = new SmashedHours();
            say(x, blanks(150));
            refused(x, "type(256)", () -> x.type(256), BAD);
            due("type(-1)", x.type(-1), BAD);
        }

        @Says("FULL.")
        static void aFullTextThatIsClearedTakesLettersAgain() {
            SmashedHours x = new SmashedHours();
            say(x, blanks(150));
            x.clear();
            due("type(32)", x.type(' '), 1);
        }

        @Says("FULL.")
        static void aFullTextThatIsReadTakesLettersAgain() {
            SmashedHours x = new SmashedHours();
            say(x, blanks(150));
            x.house();
            due("type(32)", x.type(' '), 1);
        }

        @Says("comes to THE TEXT: how many it has")
        static void aLetterChangesTheTextAlone() {
            SmashedHours x = given("p20 3;p30 2;w0 1;w1 0;l1;", 1);
            due("type(112)", x.type('p'), 1);
            due("count(0)", x.count(0), 2);
            due("now(6)", x.now(6), 1);
        }
    }

    static final class Promise03Clear extends Checks {
        @Says("THE TEXT is empty: how many letters it had.")
        static void anEmptyTextHad0() {
            SmashedHours x = new SmashedHours();
            changesNothing(x, "clear()", x::clear, 0);
        }

        @Says("THE TEXT is empty: how many letters it had.")
        static void aTextOfOneLetterHad1() {
            SmashedHours x = new SmashedHours();
            x.type('p');
            due("clear()", x.clear(), 1);
            due("clear() again", x.clear(), 0);
            due("count(2)", x.count(2), 0);
        }

        @Says("THE TEXT is empty: how many letters it had.")
        static void aFullTextHad150() {
            SmashedHours x = new SmashedHours();
            say(x, blanks(150));
            due("clear()", x.clear(), 150);
        }

        @Says("THE TEXT is empty: how many letters it had.")
        static void theTextOfAFaultIsStillThere() {
            SmashedHours x = new SmashedHours();
            say(x, "p1 1");
            x.house();
            due("clear()", x.clear(), 4);
        }

        @Says("THE TEXT is empty: how many letters it had.")
        static void aTextThatWasReadIsGone() {
            due("clear()", of("p1 1;").clear(), 0);
        }

        @Says("THE TEXT is empty: how many letters it had.")
        static void whatWasClearedIsNotRead() {
            SmashedHours x = new SmashedHours();
            say(x, "p1 1;x");
            x.clear();
            say(x, "l1;");
            due("house()", x.house(), 1);
            due("count(0)", x.count(0), 0);
        }
    }

    static final class Promise04House extends Checks {
        @Says("how many ITEMS")
        static void anEmptyTextTellsNobody() {
            SmashedHours x = behindNight("p20 3;p40 2;l2;", 3);
            due("house()", x.house(), 0);
            due("count(0)", x.count(0), 0);
            nowIs("nobody", x, 0, 0, 0, 0, 0, 0, 0);
        }

        @Says("how many ITEMS")
        static void blanksAloneTellNobody() {
            due("count(0)", reads(blanks(150), 0).count(0), 0);
        }

        @Says("THE TEXT tells all anew, and is empty then")
        static void theTextIsEmptyThen() {
            SmashedHours x = of("p20 3;");
            due("count(2)", x.count(2), 0);
            due("house() again", x.house(), 0);
        }

        @Says("-10 less FAULT: nothing changes.")
        static void faultAt0IsMinus10() {
            SmashedHours x = new SmashedHours();
            x.type('x');
            refused(x, "house()", x::house, -10);
        }

        @Says("-10 less FAULT: nothing changes.")
        static void faultAt149IsMinus159() {
            faultAt(149, blanks(149) + "x");
        }

        @Says("-10 less FAULT: nothing changes.")
        static void peopleReadAheadOfAFaultDoNotCome() {
            faultAt(32, "p7 7;p8 8;p9 9;w0 1 2;w1 0;w2 2;x");
        }

        @Says("-10 less FAULT: nothing changes.")
        static void theTextStaysBehindAFault() {
            SmashedHours x = new SmashedHours();
            say(x, "p1 1");
            due("house()", x.house(), -14);
            x.type(';');
            due("house() with the rest", x.house(), 1);
        }

        @Says("-10 less FAULT: nothing changes.")
        static void imagesAndWhatMayBeUndoneStayBehindAFault() {
            SmashedHours x = given("p20 3;", 1);
            x.keep(1);
            x.type(';');
            due("house()", x.house(), -10);
            due("undo()", x.undo(), 0);
            due("back(1)", x.back(1), 0);
            due("now(1)", x.now(1), 1);
        }

        @Says("(Read anew: as told, nothing TOLD, IMAGES are gone.)")
        static void nothingIsToldWhenReadAnew() {
            SmashedHours x = of("p20 3;");
            x.tells(1, 0, 0);
            say(x, "p20 3;");
            x.house();
            due("count(1)", x.count(1), 0);
            due("fits()", x.fits(), 7);
        }

        @Says("(Read anew: as told, nothing TOLD, IMAGES are gone.)")
        static void imagesAreGoneWhenReadAnew() {
            SmashedHours x = of("p20 3;");
            x.keep(0);
            x.keep(1);
            x.house();
            due("back(0)", x.back(0), STATE);
            due("back(1)", x.back(1), STATE);
        }

        @Says("(Read anew: as told, nothing TOLD, IMAGES are gone.)")
        static void allIsAsToldWhenReadAnew() {
            SmashedHours x = behindNight("p20 3;p40 3;p7 3;w2 2;l1;", 7);
            x.joins(3);
            x.gives(2);
            say(x, "p20 3;p40 3;p7 3;w2 2;l1;");
            due("house()", x.house(), 5);
            nowIs("anew", x, 0, 0, 0, 0, 1, 7, 0);
            due("person(0, 1)", x.person(0, 1), 3);
            due("person(0, 2)", x.person(0, 2), 0);
        }

        @Says("(Read anew: as told, nothing TOLD, IMAGES are gone.)")
        static void nothingIsUndoneWhenReadAnew() {
            SmashedHours x = given("p20 3;", 1);
            x.house();
            refused(x, "undo()", x::undo, STATE);
        }

        @Says("(Read anew: as told, nothing TOLD, IMAGES are gone.)")
        static void fewerPeopleWhenReadAnew() {
            SmashedHours x = of(people(6) + "w5 0;w0 5;w1 5;");
            say(x, "p30 2;w0 0;");
            x.house();
            due("person(1, 0)", x.person(1, 0), BAD);
            due("served(2)", x.served(2), BAD);
            due("most(0)", x.most(0), 1);
            due("could(-1)", x.could(-1), 1);
            due("now(5)", x.now(5), 1);
            due("rate(1, 0)", x.rate(1, 0), 31);
            due("odds(0, 5, 1)", x.odds(0, 5, 1), 1);
        }

        @Says("(Read anew: as told, nothing TOLD, IMAGES are gone.)")
        static void wantsAreGoneWhenReadAnew() {
            SmashedHours x = of("p1 1;p1 1;w0 1 0;w1 1;");
            say(x, people(2));
            x.house();
            due("person(0, 4)", x.person(0, 4), 0);
            due("wants(1, 0)", x.wants(1, 0), NONE);
            due("served(3)", x.served(3), 0);
            due("rate(1, 1)", x.rate(1, 1), 1);
        }
    }
}
