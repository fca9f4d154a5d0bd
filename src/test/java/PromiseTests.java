/** For each promise of the document: ordinary calls, the edges it names, wrong inputs. */
public final class PromiseTests extends Checks {
    private PromiseTests() {
    }

    public static void main(String[] args) {
        newObject();
        typeAndClear();
        houseThatIsRight();
        houseWithFaults();
        houseTellsAllAnew();
        personAndWants();
        bitsOfLumps();
        nowTells();
        givesAndTakes();
        nightByLaws();
        nightOfHoursOfOthers();
        nightsLeft();
        joinsBits();
        lawsChange();
        undoOfEach();
        undoKnowsTen();
        wouldChangesNothing();
        servedOfSets();
        getOfSets();
        mostOfSets();
        couldByAnyGiving();
        oddsOfComing();
        joinAsks();
        tellsForgetFits();
        stopInTime();
        rateOfKinds();
        imagesKeepNow();
        counts();
        wrongNumbers();
        end();
    }

    // Promise 1
    private static void newObject() {
        SmashedHours x = new SmashedHours();
        for (int what = 0; what <= 6; what++) {
            due("new now(" + what + ")", x.now(what), 0);
        }
        for (int what = 0; what <= 2; what++) {
            due("new count(" + what + ")", x.count(what), 0);
        }
        due("new trace", x.trace(), 0);
        due("new person", x.person(0, 0), BAD);
        due("new wants", x.wants(0, 0), BAD);
        due("new bit", x.bit(0), NONE);
        due("new gives", x.gives(0), BAD);
        due("new takes", x.takes(0), BAD);
        due("new would", x.would(0), BAD);
        due("new served none", x.served(0), 0);
        due("new get", x.get(0, 0), BAD);
        due("new most which", x.most(0), 0);
        due("new most how many", x.most(1), 0);
        due("new could", x.could(-1), 0);
        due("new could 0", x.could(0), BAD);
        due("new odds", x.odds(0, 5, 0), BAD);
        due("new join which", x.join(0), 0);
        due("new join lacking", x.join(1), 60);
        due("new join hours", x.join(2), 0);
        due("new tells", x.tells(1, 0, 0), BAD);
        due("new fits", x.fits(), 7);
        due("new rate", x.rate(0, 0), NO);
        due("new back", x.back(0), STATE);
        due("new undo", x.undo(), STATE);
        due("new laws the same", x.laws(0), STATE);
        due("new laws", x.laws(2), 0);
        due("new night", x.night(), 0);
        due("new nights gone", x.now(0), 1);
        due("new undo of night", x.undo(), 1);
        due("new undo of laws", x.undo(), 0);
        due("new law again", x.now(4), 0);
    }

    // Promises 2, 3
    private static void typeAndClear() {
        SmashedHours x = new SmashedHours();
        due("type -1", x.type(-1), BAD);
        due("type 256", x.type(256), BAD);
        due("type 0", x.type(0), 1);
        due("type 255", x.type(255), 2);
        due("clear", x.clear(), 2);
        due("clear again", x.clear(), 0);
        for (int i = 1; i <= 150; i++) {
            due("type the " + i, x.type(32), i);
        }
        due("type the 151", x.type(32), FULL);
        due("BAD ahead of FULL", x.type(256), BAD);
        due("count letters", x.count(2), 150);
        due("blanks alone", x.house(), 0);
        due("empty then", x.count(2), 0);
        due("type behind it", x.type(32), 1);
    }

    // Promise 4
    private static void houseThatIsRight() {
        reads("", 0);
        reads("   ", 0);
        reads("p1 1;", 1);
        reads("p60 9;", 1);
        reads("  p  60  9  ;  ", 1);
        reads("l0;", 1);
        reads("l2;p1 1;", 2);
        reads("p1 1;w0;", 2);
        reads("p1 1;w0 0;", 2);
        reads("p1 1;p2 2;p3 3;p4 4;p5 5;p6 6;w5 0 1 2 3;w5;w5 5;l 1 ;", 10);
        reads("p1 1;p1 1;p1 1;p1 1;w0 3 2 1 0;p1 1;w4 4;", 7);
    }

    private static void houseWithFaults() {
        faultAt(0, "x");
        faultAt(0, ";");
        faultAt(0, "5");
        faultAt(0, "P1 1;");
        faultAt(2, "p1\t1;");
        faultAt(1, "p");
        faultAt(3, "p  ");
        faultAt(2, "p1");
        faultAt(4, "p1 1");
        faultAt(5, "p1 1 ");
        faultAt(1, "p0 1;");
        faultAt(1, "p61 1;");
        faultAt(1, "p100 1;");
        faultAt(1, "p01 1;");
        faultAt(2, "p 00 1;");
        faultAt(1, "p4294967297 1;");
        faultAt(3, "p1 0;");
        faultAt(3, "p1 10;");
        faultAt(5, "p1 1 1;");
        faultAt(4, "p1 1p");
        faultAt(1, "p;");
        faultAt(2, "p1;");
        faultAt(1, "pp");
        faultAt(5, "p1 1;;");
        faultAt(1, "w");
        faultAt(1, "w0;");
        faultAt(6, "p1 1;w;");
        faultAt(6, "p1 1;w1;");
        faultAt(7, "p1 1;w0");
        faultAt(8, "p1 1;w0 1;");
        faultAt(8, "p1 1;w0 1;p1 1;");
        faultAt(10, "p1 1;w0 0 0;");
        faultAt(8, "p1 1;w0 00;");
        faultAt(8, "p1 1;w0 w");
        faultAt(36, "p1 1;p1 1;p1 1;p1 1;p1 1;w0 0 1 2 3 4;");
        faultAt(35, "p1 1;p1 1;p1 1;p1 1;p1 1;w0 0 1 2 3");
        faultAt(30, "p1 1;p1 1;p1 1;p1 1;p1 1;p1 1;p");
        faultAt(31, "p1 1;p1 1;p1 1;p1 1;p1 1;p1 1;w6;");
        faultAt(1, "l");
        faultAt(1, "l;");
        faultAt(1, "l3;");
        faultAt(2, "l1");
        faultAt(3, "l1 1;");
        faultAt(3, "l1;l1;");
        faultAt(4, "l1; l");
        faultAt(3, "l1;\u00ff");
    }

    private static void houseTellsAllAnew() {
        SmashedHours x = given("p20 3;p40 2;p5 5;w0 1;l1;", 3);
        x.night();
        x.joins(3);
        x.tells(1, 0, 0);
        x.keep(0);
        x.keep(1);
        x.gives(2);
        x.rate(0, 0);
        nowIs("ahead of anew", x, 1, 4, 0, 1, 1, 4, 5);
        say(x, "p7 4;p8 5;p9 6;w2 1;");
        due("anew", x.house(), 4);
        due("people anew", x.count(0), 3);
        due("told anew", x.count(1), 0);
        due("law anew", x.now(4), 0);
        due("wants anew", x.person(0, 4), 0);
        due("nights anew", x.person(0, 1), 4);
        due("hour anew", x.person(1, 2), 1);
        due("own hours anew", x.now(5), 7);
        for (int what = 0; what <= 3; what++) {
            due("now anew " + what, x.now(what), 0);
        }
        due("undo anew", x.undo(), STATE);
        due("image 0 anew", x.back(0), STATE);
        due("image 1 anew", x.back(1), STATE);
        due("trace goes on", x.trace(), 1);
        due("nobody", x.house(), 0);
        due("nobody there", x.count(0), 0);
        due("nobody has", x.now(5), 0);
    }

    // Promises 5, 6
    private static void personAndWants() {
        SmashedHours x = of("p20 3;p1 1;p60 9;p5 5;p6 6;w0 4 2 0 1;w1 0 2;w1 2;");
        int[][] due = {{20, 3, 0, 0, 4}, {1, 1, 1, 0, 1}, {60, 9, 2, 0, 0}};
        for (int p = 0; p < due.length; p++) {
            for (int what = 0; what < 5; what++) {
                due("person(" + p + ", " + what + ")", x.person(p, what), due[p][what]);
            }
            due("person -1", x.person(p, -1), BAD);
            due("person 5", x.person(p, 5), BAD);
        }
        due("no person 5", x.person(5, 0), BAD);
        due("no person -1", x.person(-1, 0), BAD);
        int[] row = {4, 2, 0, 1};
        for (int k = 0; k < 4; k++) {
            due("wants(0, " + k + ")", x.wants(0, k), row[k]);
            due("wants(2, " + k + ")", x.wants(2, k), NONE);
            due("wants(1, " + k + ")", x.wants(1, k), k == 0 ? 2 : NONE);
        }
        due("wants k -1", x.wants(0, -1), BAD);
        due("wants k 4", x.wants(0, 4), BAD);
        due("wants p 5", x.wants(5, 0), BAD);
        due("wants p -1", x.wants(-1, 0), BAD);
        x.gives(2);
        due("in the silk", x.person(2, 3), 1);
        due("has it still", x.person(2, 2), 2);
        due("nights still", x.person(2, 1), 9);
        x.night();
        due("out of the silk", x.person(2, 3), 0);
        due("has none", x.person(2, 2), NONE);
        due("a night less", x.person(2, 1), 8);
        due("others have as many", x.person(0, 1), 3);
    }

    // Promise 7
    private static void bitsOfLumps() {
        SmashedHours x = of("p11 9;p12 9;p13 9;w0 1;");
        due("bit -1", x.bit(-1), BAD);
        due("bit 8", x.bit(8), BAD);
        bitsAre("none", x);
        give(x, 7);
        // 0 points at 1, so 1 is out first; then 0, who points at nobody by then, then 2.
        x.night();
        bitsAre("as they went", x, 12, 11, 13);
        // Six people lose six hours at most, so that the ninth bit never comes.
        SmashedHours all = given("p1 9;p2 9;p3 9;p4 9;p5 9;p6 9;", 63);
        all.night();
        bitsAre("all are lumps", all, 1, 2, 3, 4, 5, 6);
    }

    // Promise 8
    private static void nowTells() {
        SmashedHours x = of("p20 3;p40 3;p7 1;w0 1;w1 0;l2;");
        int[] start = {0, 0, 0, 0, 2, 7, 0};
        nowIs("start", x, start);
        give(x, 5);
        nowIs("two gave", x, 0, 5, 0, 0, 2, 7, 2);
        x.night();
        // 0 WANTS 1's hour, that is not there; 2 WANTS none.
        nowIs("two lumps", x, 1, 0, 2, 0, 2, 2, 3);
        x.gives(1);
        x.night();
        nowIs("three lumps", x, 2, 0, 3, 0, 2, 0, 5);
        x.joins(5);
        nowIs("an hour made", x, 2, 0, 1, 1, 2, 0, 6);
        due("now 7", x.now(7), BAD);
        due("now -1", x.now(-1), BAD);
    }

    // Promises 9, 10
    private static void givesAndTakes() {
        SmashedHours x = of("p20 1;p40 3;w0 0;");
        due("gives 2", x.gives(2), BAD);
        due("gives -1", x.gives(-1), BAD);
        due("takes 2", x.takes(2), BAD);
        due("takes -1", x.takes(-1), BAD);
        due("takes, not in", x.takes(0), STATE);
        due("refused is not known", x.now(6), 0);
        due("gives", x.gives(1), 1);
        due("gives too", x.gives(0), 2);
        due("gives again", x.gives(0), STATE);
        due("takes", x.takes(1), 1);
        due("silk", x.now(1), 1);
        due("gives back in", x.gives(1), 2);
        x.night();
        due("no nights left", x.gives(0), STATE);
        due("has his hour", x.person(0, 2), 0);
        due("no hour", x.gives(1), STATE);
        due("has nights", x.person(1, 1), 2);
    }

    // Promises 11, 15
    private static void nightByLaws() {
        // 0 of weight 30 WANTS 3 (40), 2 (29), 1 (31): first 3, nearest 2 (like 1, but ahead), lowest 1.
        String text = "p30 9;p31 9;p29 9;p40 9;w0 3 2 1;w1 0;w2 0;w3 0;";
        wouldAll("law 0", given(text, 15), 3, NONE, NONE, 0);
        wouldAll("law 1", given(text + "l1;", 15), 2, NONE, 0, NONE);
        wouldAll("law 2", given(text + "l2;", 15), 1, 0, NONE, NONE);
        SmashedHours x = given(text + "l1;", 15);
        due("night", x.night(), 2);
        due("has 2", x.person(0, 2), 2);
        due("has 0", x.person(2, 2), 0);
        bitsAre("lumps by law 1", x, 31, 40);
        due("own hours", x.now(5), 0);

        // A tail that leads into a ring: 0 to 1 to 2 to 1; then 0 is left alone.
        SmashedHours tail = given("p1 9;p2 9;p3 9;w0 1;w1 2;w2 1;", 7);
        wouldAll("tail", tail, NONE, 2, 1);
        due("tail night", tail.night(), 2);
        bitsAre("tail", tail, 1);

        // Two rings, and one who points at himself.
        SmashedHours rings = given("p1 9;p2 9;p3 9;p4 9;p5 9;w0 1;w1 0;w2 3;w3 2;w4 4;", 31);
        wouldAll("rings", rings, 1, 0, 3, 2, 4);
        due("rings night", rings.night(), 5);
        due("alone is a ring", rings.person(4, 2), 4);
        due("own", rings.now(5), 16);
        bitsAre("no lumps", rings);

        // The next of his WANTS when the best is gone.
        wouldAll("second best", given("p1 9;p2 9;p3 9;w0 1;w1 0;w2 0 2;", 7), 1, 0, 2);

        // The ring that the lowest leads to is the first, so that 5 is a lump ahead of 4.
        SmashedHours order = given("p1 9;p2 9;p3 9;p4 9;p5 9;p6 9;w0 1;w1 0;w2 3;w3 2;w4 2;w5 0;", 63);
        due("order night", order.night(), 4);
        bitsAre("order", order, 6, 5);
        // 0 leads to the ring of 4 and 5, which goes ahead of that of 1 and 2.
        SmashedHours led = given("p1 9;p2 9;p3 9;p4 9;p5 9;p6 9;w0 5;w1 2;w2 1;w3 1;w4 5;w5 4;", 63);
        wouldAll("led", led, NONE, 2, 1, NONE, 5, 4);
        led.night();
        bitsAre("led", led, 1, 4);
    }

    private static void nightOfHoursOfOthers() {
        // Hours are pointed at by whose they are, not by who has them now.
        SmashedHours x = given("p10 9;p20 9;p30 9;w0 1 2;w1 0;w2 1;", 3);
        due("swap", x.night(), 2);
        due("0 has 1", x.person(0, 2), 1);
        give(x, 6);
        // 1 has 0's hour and WANTS just that; 2 WANTS 1's, which is not given.
        wouldAll("hours of others", x, STATE, 0, NONE);
        x.takes(2);
        x.gives(0);
        // 0 WANTS 1's, which he gave himself: he is alone in a ring; so is 1.
        wouldAll("his own gift", x, 1, 0, STATE);
        x.gives(2);
        wouldAll("three", x, 1, 0, NONE);
        due("three night", x.night(), 2);
        bitsAre("three", x, 30);

        // A lump of somebody else's hour weighs as that hour.
        SmashedHours y = given("p10 9;p20 9;w0 1;w1 0;", 3);
        y.night();
        y.gives(0);
        y.takes(0);
        y.gives(0);
        y.night();
        due("0 has 1's again", y.person(0, 2), 1);
        SmashedHours z = given("p10 9;p20 9;p30 9;w0 1;w1 0 2;w2 0;", 7);
        z.night();
        bitsAre("2 is out", z, 30);
        // Law 1 goes by the weight of the hour that he gave: 0 has 1's of 20 now.
        SmashedHours w = given("p10 9;p20 9;p12 9;p21 9;w0 1 2 3;w1 0;w2 0 1;w3 1 0;", 3);
        w.night();
        w.laws(1);
        give(w, 13);
        // 0 gave 20 and WANTS 20 (his gift): alone. Without it he would take 21.
        wouldAll("by weight of the gift", w, 1, STATE, NONE, NONE);
    }

    private static void nightsLeft() {
        SmashedHours x = of("p10 2;p20 1;w0 0;w1 1;");
        due("empty night", x.night(), 0);
        due("nobody has less", x.person(0, 1), 2);
        due("gone", x.now(0), 1);
        give(x, 3);
        due("each alone", x.night(), 2);
        due("0 has one", x.person(0, 1), 1);
        due("1 has none", x.person(1, 1), 0);
        due("1 can't", x.gives(1), STATE);
        x.gives(0);
        x.night();
        due("0 can't", x.gives(0), STATE);
        // An object's calls end ahead of this; the limit is held all the same.
        for (int i = 4; i <= 999; i++) {
            due("night " + i, x.night(), 0);
            due("gone " + i, x.now(0), i);
        }
        due("there were 999", x.night(), STATE);
        due("no more", x.now(0), 999);
    }

    // Promise 12
    private static void joinsBits() {
        SmashedHours x = given("p10 9;p20 9;p30 9;p40 9;p60 9;p50 9;", 63);
        x.night();
        due("joins 0", x.joins(0), BAD);
        due("joins -1", x.joins(-1), BAD);
        due("joins 64", x.joins(64), BAD);
        due("joins least", x.joins(Integer.MIN_VALUE), BAD);
        due("too little", x.joins(3), STATE);
        due("too much", x.joins(63), STATE);
        due("known", x.now(6), 7);
        due("joins 10, 20, 30", x.joins(7), 1);
        bitsAre("come up", x, 40, 60, 50);
        due("joins 8", x.joins(8), BAD);
        due("60 alone", x.joins(2), 2);
        bitsAre("come up too", x, 40, 50);
        due("made", x.now(3), 2);
        SmashedHours y = of("p1 1;");
        due("no bits", y.joins(1), BAD);
    }

    // Promise 13
    private static void lawsChange() {
        SmashedHours x = of("l1;");
        due("laws -1", x.laws(-1), BAD);
        due("laws 3", x.laws(3), BAD);
        due("laws 1", x.laws(1), STATE);
        due("laws 2", x.laws(2), 1);
        due("laws 0", x.laws(0), 2);
        due("law", x.now(4), 0);
        due("known", x.now(6), 2);
    }

    // Promise 14
    private static void undoOfEach() {
        SmashedHours x = of("p20 3;p40 2;p5 1;w2 2;");
        x.gives(0);
        x.gives(1);
        x.takes(0);
        x.gives(0);
        x.gives(2);
        x.night();
        x.joins(3);
        x.laws(1);
        nowIs("all done", x, 1, 0, 0, 1, 1, 4, 8);
        due("undo laws", x.undo(), 7);
        nowIs("laws undone", x, 1, 0, 0, 1, 0, 4, 7);
        due("undo joins", x.undo(), 6);
        nowIs("joins undone", x, 1, 0, 2, 0, 0, 4, 6);
        bitsAre("joins undone", x, 20, 40);
        due("undo night", x.undo(), 5);
        nowIs("night undone", x, 0, 7, 0, 0, 0, 7, 5);
        due("nights are back", x.person(2, 1), 1);
        due("undo gives", x.undo(), 4);
        due("silk", x.now(1), 3);
        due("undo gives again", x.undo(), 3);
        due("silk again", x.now(1), 2);
        due("undo takes", x.undo(), 2);
        due("silk behind takes", x.now(1), 3);
        due("something else", x.laws(2), 0);
        due("it is known", x.now(6), 3);
        due("undo it", x.undo(), 2);
        due("undo", x.undo(), 1);
        due("undo first", x.undo(), 0);
        due("silk is empty", x.now(1), 0);
        due("undo nothing", x.undo(), STATE);

        SmashedHours bits = given("p20 3;p40 2;p5 1;", 7);
        bits.night();
        bits.joins(3);
        bitsAre("5 came up", bits, 5);
        bits.undo();
        bitsAre("all lie as they did", bits, 20, 40, 5);
    }

    private static void undoKnowsTen() {
        SmashedHours x = of("p20 3;");
        for (int i = 1; i <= 13; i++) {
            x.night();
            due("known " + i, x.now(6), Math.min(10, i));
        }
        for (int i = 9; i >= 0; i--) {
            due("undo to " + i, x.undo(), i);
            due("gone to " + i, x.now(0), i + 3);
        }
        due("older are lost", x.undo(), STATE);
        due("as it was", x.now(0), 3);
        x.night();
        due("undo behind it", x.undo(), 0);
        due("as it was again", x.now(0), 3);
    }

    // Promise 15
    private static void wouldChangesNothing() {
        SmashedHours x = given("p20 3;p40 2;p5 1;w0 1;w1 0;", 5);
        due("would 0", x.would(0), NONE);
        due("would 1", x.would(1), STATE);
        due("would 2", x.would(2), NONE);
        due("would 3", x.would(3), BAD);
        due("would -1", x.would(-1), BAD);
        nowIs("nothing changed", x, 0, 5, 0, 0, 0, 7, 2);
        x.gives(1);
        wouldAll("with 1", x, 1, 0, NONE);
    }

    // Promise 16
    private static void servedOfSets() {
        SmashedHours x = given("p20 3;p40 1;p5 1;w0 1;w1 0;w2 2;", 4);
        int[] want = {0, 0, 0, 2, 1, 1, 1, 3};
        for (int set = 0; set < 8; set++) {
            due("served(" + set + ")", x.served(set), want[set]);
        }
        due("served 8", x.served(8), BAD);
        due("served -1", x.served(-1), BAD);
        due("silk as it was", x.now(1), 4);
        x.takes(2);
        give(x, 2);
        x.night();
        due("no hour", x.served(2), STATE);
        due("no hour among", x.served(7), STATE);
        due("BAD ahead of STATE", x.served(15), BAD);
        x.gives(2);
        x.night();
        due("has his hour", x.person(2, 2), 2);
        due("no nights", x.served(4), STATE);
        due("none", x.served(0), 0);
        due("one", x.served(1), 0);
    }

    // Promise 17
    private static void getOfSets() {
        // 0 gets 2's by {0, 2}, too, but of as many people {0, 1} is for 1's.
        SmashedHours x = of("p20 3;p40 3;p5 3;p6 3;w0 1 2;w1 0;w2 3 0;w3 0;");
        due("get(0, 1)", x.get(0, 1), 3);
        due("get(0, 2)", x.get(0, 2), 5);
        due("get(2, 3)", x.get(2, 3), 13);
        due("get(2, 0)", x.get(2, 0), 5);
        due("get(3, 0)", x.get(3, 0), 13);
        due("get(0, 3)", x.get(0, 3), NONE);
        due("get(0, 0)", x.get(0, 0), NONE);
        due("get(4, 0)", x.get(4, 0), BAD);
        due("get(0, 4)", x.get(0, 4), BAD);
        due("get(-1, 0)", x.get(-1, 0), BAD);
        due("get(0, -1)", x.get(0, -1), BAD);
        // Of several of three the least bits: 0 gets 1's through 2 or through 3.
        SmashedHours y = of("p1 1;p1 1;p1 1;p1 1;w0 1;w1 2 3;w2 0;w3 0;");
        due("least bits", y.get(0, 1), 7);
        y.gives(2);
        y.night();
        due("2 has none", y.get(0, 1), 11);
        due("who has none gets none", y.get(2, 0), NONE);
        due("an hour that is lost", y.get(1, 2), NONE);
        SmashedHours six = of("p1 1;p1 1;p1 1;p1 1;p1 1;p1 1;w0 1;w1 2;w2 3;w3 4;w4 5;w5 0;");
        due("all six", six.get(3, 4), 63);
        due("alone", of("p1 1;w0 0;").get(0, 0), 1);
        SmashedHours late = of("p1 9;p1 1;w0 1;w1 1 0;");
        late.gives(1);
        late.night();
        due("has his hour", late.person(1, 2), 1);
        due("who has no nights is in no set", late.get(0, 1), NONE);
    }

    // Promise 18
    private static void mostOfSets() {
        due("most -1", new SmashedHours().most(-1), BAD);
        due("most 2", new SmashedHours().most(2), BAD);
        SmashedHours none = of("p1 1;p1 1;");
        due("none is served: nobody", none.most(0), 0);
        due("none is served", none.most(1), 0);
        SmashedHours x = of("p1 1;p1 1;p1 1;p1 1;w1 3;w3 1;w2 2;");
        due("without lumps", x.most(0), 14);
        due("three", x.most(1), 3);
        SmashedHours y = of("p1 1;p1 1;p1 1;w0 2;w1 2;w2 1 0;");
        due("of two sets", y.most(0), 5);
        due("two", y.most(1), 2);
        y.gives(0);
        due("those in the silk are no matter", y.most(0), 5);
        y.night();
        due("without 0", y.most(0), 6);
        due("0 alone", of("p1 1;p1 1;w0 0;").most(0), 1);
        SmashedHours late = of("p1 9;p1 1;w0 1;w1 1 0;");
        late.gives(1);
        late.night();
        due("who has no nights is in no set", late.most(1), 0);
    }

    // Promise 19
    private static void couldByAnyGiving() {
        SmashedHours x = of("p1 1;p1 1;p1 1;p1 1;w0 3 1;w1 1;w2 3 1;");
        due("two at most", x.could(-1), 2);
        due("0 has the lowest", x.could(0), 1);
        due("1 has none then", x.could(1), NONE);
        due("2", x.could(2), 3);
        due("3 wants none", x.could(3), NONE);
        due("could 4", x.could(4), BAD);
        due("could -2", x.could(-2), BAD);
        // The lowest for 0 would leave 1 with nothing, and so fewer in all.
        SmashedHours y = of("p1 1;p1 1;w0 1 0;w1 0;");
        due("both", y.could(-1), 2);
        due("0", y.could(0), 1);
        due("1", y.could(1), 0);
        SmashedHours z = of("p1 1;p1 1;p1 1;w0 1;w1 1;w2 1 0;");
        due("z most", z.could(-1), 2);
        due("z 0", z.could(0), 1);
        due("z 1", z.could(1), NONE);
        due("z 2", z.could(2), 0);
        z.gives(0);
        z.night();
        due("0's hour is lost, and he is out", z.could(-1), 1);
        due("0 has none", z.could(0), NONE);
        due("1 has it", z.could(1), 1);
        due("2 has none", z.could(2), NONE);
        SmashedHours nights = of("p1 1;w0 0;");
        nights.gives(0);
        nights.night();
        due("nights are no matter", nights.could(-1), 1);
        due("one has one", of("p1 1;p1 1;w0 0 1;").could(-1), 1);
        SmashedHours six = of("p1 1;p1 1;p1 1;p1 1;p1 1;p1 1;w0 1;w1 2;w2 3;w3 4;w4 5;w5 5 0;");
        due("all six", six.could(-1), 6);
        due("the last of six", six.could(5), 0);
    }

    // Promise 20
    private static void oddsOfComing() {
        SmashedHours x = of("p1 9;p1 9;p1 1;p1 9;w0 1;w1 0 2;w2 1;w3 3;");
        fraction("0 needs 1", x, 0, 7, 7, 10);
        fraction("0 by none", x, 0, 0, 0, 1);
        fraction("0 by all", x, 0, 10, 1, 1);
        // 2 needs 1, and 0 not to come: 3/10 of 7/10.
        fraction("2", x, 2, 3, 21, 100);
        fraction("3 alone", x, 3, 4, 1, 1);
        fraction("1 by half", x, 1, 5, 3, 4);
        x.gives(1);
        fraction("those in the silk are no matter", x, 0, 7, 7, 10);
        x.takes(1);
        x.gives(2);
        x.night();
        fraction("2 has none", x, 2, 5, 0, 1);
        fraction("1 has 0 alone", x, 1, 5, 1, 2);
        due("odds p 4", x.odds(4, 5, 0), BAD);
        due("odds p -1", x.odds(-1, 5, 0), BAD);
        due("odds x 11", x.odds(0, 11, 0), BAD);
        due("odds x -1", x.odds(0, -1, 0), BAD);
        due("odds what 2", x.odds(0, 5, 2), BAD);
        due("odds what -1", x.odds(0, 5, -1), BAD);
    }

    private static void fraction(String name, SmashedHours x, int p, int tenths, int upper, int lower) {
        due("odds " + name + " upper", x.odds(p, tenths, 0), upper);
        due("odds " + name + " lower", x.odds(p, tenths, 1), lower);
    }

    // Promise 21
    private static void joinAsks() {
        SmashedHours x = given("p50 1;p20 1;p41 1;p35 1;p40 1;p25 1;", 63);
        x.night();
        // 20 and 40, or 35 and 25: 60 each, the least bits are the former.
        due("which", x.join(0), 18);
        due("lacking", x.join(1), 0);
        due("hours", x.join(2), 2);
        due("nothing changed", x.now(2), 6);
        x.joins(18);
        due("which then", x.join(0), 12);
        due("hours then", x.join(2), 1);
        SmashedHours y = given("p50 1;p20 1;p31 1;p29 1;", 15);
        y.night();
        due("31 and 29", y.join(0), 12);
        y.joins(12);
        due("50 is most", y.join(0), 1);
        due("10 lacking", y.join(1), 10);
        due("no hour", y.join(2), 0);
        // Greed for the first that fits, 10 20 30, would leave 10 and 20 that fit with 50 and 40.
        SmashedHours z = given("p10 1;p20 1;p30 1;p50 1;p40 1;", 31);
        z.night();
        due("least bits", z.join(0), 7);
        due("two hours", z.join(2), 2);
        SmashedHours whole = given("p60 1;p1 1;", 3);
        whole.night();
        due("60 alone", whole.join(0), 1);
        due("is an hour", whole.join(2), 1);
        whole.joins(1);
        due("a minute", whole.join(0), 1);
        due("59 lacking", whole.join(1), 59);
        due("join 3", z.join(3), BAD);
        due("join -1", z.join(-1), BAD);
    }

    // Promises 22, 23, 24
    private static void tellsForgetFits() {
        String text = "p30 1;p31 1;p29 1;p40 1;w0 3 2 1;w1 0;w2 0;w3 0;";
        SmashedHours x = of(text);
        due("fits all", x.fits(), 7);
        due("tells", x.tells(15, 0, 3), 1);
        due("law 0", x.fits(), 1);
        due("tells against it", x.tells(15, 0, 2), 2);
        due("no law", x.fits(), 0);
        due("forget", x.forget(), 2);
        due("forget nothing", x.forget(), 0);
        due("fits all again", x.fits(), 7);
        x.tells(7, 0, 2);
        due("laws 0, 1", x.fits(), 3);
        x.tells(15, 2, 0);
        due("law 1", x.fits(), 2);
        x.forget();
        x.tells(7, 1, 0);
        due("law 2", x.fits(), 4);
        // Each with his own hour, whatever things are now.
        give(x, 15);
        x.night();
        due("law 2 still", x.fits(), 4);
        for (int i = 2; i <= 6; i++) {
            due("tells " + i, x.tells(1, 0, 0), i);
        }
        due("FULL", x.tells(1, 0, 0), FULL);
        due("BAD ahead of FULL", x.tells(16, 0, 0), BAD);
        due("count told", x.count(1), 6);
        due("nobody gets his own here", x.fits(), 0);
        due("forget six", x.forget(), 6);
        due("tells set 0", x.tells(0, 0, 0), BAD);
        due("tells set -1", x.tells(-1, 0, 0), BAD);
        due("tells p not in", x.tells(2, 0, 1), BAD);
        due("tells hour not in", x.tells(2, 1, 0), BAD);
        due("tells p 4", x.tells(15, 4, 0), BAD);
        due("tells p -1", x.tells(15, -1, 0), BAD);
        due("tells hour 4", x.tells(15, 0, 4), BAD);
        due("tells hour -1", x.tells(15, 0, -1), BAD);
        due("tells p 32", x.tells(15, 32, 0), BAD);
        due("tells hour 32", x.tells(15, 0, 32), BAD);
        due("none came of it", x.count(1), 0);
    }

    // Promise 25
    private static void stopInTime() {
        SmashedHours x = new SmashedHours();
        stops(x, 0, 10, 99, 0, 0, 1);
        stops(x, 1, 10, 99, 0, 99, 1);
        stops(x, 5, 10, 99, 99, 0, 1);
        stops(x, 5, 10, 99, 98, 1, 1);
        stops(x, 5, 0, 99, 0, 0, 1);
        stops(x, 5, 0, 99, 1, 0, 1);
        stops(x, 1, 3, 7, 2, 1, 10);
        stops(x, 2, 5, 20, 8, 3, 1);
        stops(x, 3, 5, 20, 8, 7, 2);
        stops(x, 5, 1, 99, 0, 4054149, 100000);
        stops(x, 2, 5, 10, 6, 0, 1);
        stops(x, 5, 10, 0, 0, 0, 1);
        stops(x, 5, 10, 0, 99, 0, 1);
        int[][] wrongs = {{-1, 0, 0, 0, 0}, {6, 0, 0, 0, 0}, {0, -1, 0, 0, 0}, {0, 11, 0, 0, 0}, {0, 0, -1, 0, 0},
            {0, 0, 100, 0, 0}, {0, 0, 0, -1, 0}, {0, 0, 0, 100, 0}, {0, 0, 0, 0, -1}, {0, 0, 0, 0, 2}};
        for (int[] w : wrongs) {
            due("stop BAD", x.stop(w[0], w[1], w[2], w[3], w[4]), BAD);
        }
    }

    private static void stops(SmashedHours x, int n, int tenths, int v, int c, int upper, int lower) {
        String name = "stop(" + n + ", " + tenths + ", " + v + ", " + c + ") ";
        due(name + "upper", x.stop(n, tenths, v, c, 0), upper);
        due(name + "lower", x.stop(n, tenths, v, c, 1), lower);
    }

    // Promises 26, 30
    private static void rateOfKinds() {
        SmashedHours x = of("p20 3;p1 9;w0 1 0;w1 0;");
        int[] want = {20, 22, 17, 44, 17, 20};
        int[] marks = {1, 11, 101, 1011, 10101, 100001};
        long trace = 0;
        for (int kind = 0; kind < 6; kind++) {
            due("rate(" + kind + ", 0)", x.rate(kind, 0), want[kind]);
            trace += marks[kind];
            due("trace", x.trace(), trace);
        }
        due("below 0", x.rate(2, 1), -8);
        due("who has it", x.rate(4, 1), -7);
        trace += 101 + 10101;
        due("rate kind 6", x.rate(6, 0), NO);
        due("rate kind -1", x.rate(-1, 0), NO);
        due("rate p 2", x.rate(0, 2), NO);
        due("rate p -1", x.rate(0, -1), NO);
        due("no mark for these", x.trace(), trace);
        give(x, 3);
        x.night();
        due("1 has it", x.rate(4, 0), 20 - 2 + 1);
        due("0 has it", x.rate(4, 1), 1 - 8 + 0);
        due("a night has gone by", x.rate(5, 0), 21);
        x.undo();
        trace += 2 * 10101 + 100001;
        due("undo leaves the trace", x.trace(), trace);
        SmashedHours y = given("p20 3;", 1);
        y.night();
        due("nobody has it", y.rate(4, 0), 20 - 2 + 10);
    }

    // Promises 27, 28
    private static void imagesKeepNow() {
        SmashedHours x = of("p20 3;p40 2;p5 1;w2 2;");
        due("keep -1", x.keep(-1), BAD);
        due("keep 2", x.keep(2), BAD);
        due("back -1", x.back(-1), BAD);
        due("back 2", x.back(2), BAD);
        due("back to none", x.back(1), STATE);
        due("keep 0", x.keep(0), 0);
        give(x, 7);
        x.night();
        x.laws(2);
        x.gives(0);
        x.joins(3);
        due("back 1 is none still", x.back(1), STATE);
        due("keep 1", x.keep(1), 1);
        due("keep is not undone", x.now(6), 6);
        x.tells(1, 0, 0);
        x.rate(0, 0);
        due("back 0", x.back(0), 0);
        nowIs("image 0", x, 0, 0, 0, 0, 0, 7, 0);
        due("nights of image 0", x.person(0, 1), 3);
        due("told is no image's", x.count(1), 1);
        due("trace is no image's", x.trace(), 1);
        due("nothing undone behind it", x.undo(), STATE);
        x.gives(1);
        due("back 1", x.back(1), 1);
        nowIs("image 1", x, 1, 0, 0, 1, 2, 4, 0);
        due("hour of image 1", x.person(1, 2), NONE);
        due("nights of image 1", x.person(1, 1), 1);
        due("back 0 again", x.back(0), 0);
        x.night();
        due("keep over it", x.keep(0), 1);
        x.night();
        due("back to the later", x.back(0), 1);

        SmashedHours y = given("p20 3;p40 2;p7 1;", 7);
        y.takes(2);
        y.keep(0);
        y.night();
        y.keep(1);
        y.joins(3);
        y.back(0);
        due("silk of the image", y.now(1), 3);
        y.back(1);
        bitsAre("bits of the image", y, 20, 40);
    }

    // Promise 29
    private static void counts() {
        SmashedHours x = of("p20 3;p40 2;");
        say(x, "p1");
        x.tells(3, 1, 0);
        due("people", x.count(0), 2);
        due("told", x.count(1), 1);
        due("letters", x.count(2), 2);
        due("count 3", x.count(3), BAD);
        due("count -1", x.count(-1), BAD);
    }

    /** No number, however far off, may do more than be refused. */
    private static void wrongNumbers() {
        int[] far = {Integer.MIN_VALUE, Integer.MAX_VALUE, -1000, 1000, 31, 32, 33, 64};
        for (int n : far) {
            SmashedHours x = given("p20 3;p40 2;w0 1;w1 0;", 3);
            due("person " + n, x.person(n, 0), BAD);
            due("person what " + n, x.person(0, n), BAD);
            due("wants " + n, x.wants(n, 0), BAD);
            due("wants k " + n, x.wants(0, n), BAD);
            due("bit " + n, x.bit(n), BAD);
            due("now " + n, x.now(n), BAD);
            due("gives " + n, x.gives(n), BAD);
            due("takes " + n, x.takes(n), BAD);
            due("joins " + n, x.joins(n), BAD);
            due("laws " + n, x.laws(n), BAD);
            due("would " + n, x.would(n), BAD);
            due("served " + n, x.served(n), BAD);
            due("get " + n, x.get(n, 0), BAD);
            due("get hour " + n, x.get(0, n), BAD);
            due("most " + n, x.most(n), BAD);
            due("could " + n, x.could(n), BAD);
            due("odds " + n, x.odds(n, 0, 0), BAD);
            due("odds x " + n, x.odds(0, n, 0), BAD);
            due("odds what " + n, x.odds(0, 0, n), BAD);
            due("join " + n, x.join(n), BAD);
            due("tells set " + n, x.tells(n, 0, 0), BAD);
            due("tells p " + n, x.tells(3, n, 0), BAD);
            due("tells hour " + n, x.tells(3, 0, n), BAD);
            due("rate kind " + n, x.rate(n, 0), NO);
            due("rate p " + n, x.rate(0, n), NO);
            due("keep " + n, x.keep(n), BAD);
            due("back " + n, x.back(n), BAD);
            due("count " + n, x.count(n), BAD);
            due("trace", x.trace(), 0);
            due("stop n " + n, x.stop(n, 0, 0, 0, 0), BAD);
            due("stop what " + n, x.stop(0, 0, 0, 0, n), BAD);
            nowIs("nothing changed", x, 0, 3, 0, 0, 0, 3, 2);
        }
    }
}
