import java.util.function.IntSupplier;

/** What the tests share: answers held against what is due, and short ways to an object in some state. */
abstract class Checks {
    // By number: were they the class's own, a wrong constant would be held against itself.
    static final int BAD = -1;
    static final int STATE = -2;
    static final int FULL = -3;
    static final int NONE = -9;
    static final int NO = -1000000;
    static final int LEAST = Integer.MIN_VALUE;
    static final int LARGEST = Integer.MAX_VALUE;
    /** Numbers that wrap around to a small one by a shift, by 8, 16 or 31 bits, or by a change of sign. */
    static final int[] FAR = {LEAST, LEAST + 1, LARGEST, -256, -64, -32, 31, 32, 33, 64, 256, 257, 65536, 1 << 30};

    static int checks = 0;
    static int wrong = 0;
    /** Which test it is, ahead of each line that tells a wrong answer. */
    static String title = "";

    static void due(String call, long got, long want) {
        checks++;
        if (got != want) {
            wrong++;
            System.out.println(title + call + " answered " + got + ", due is " + want);
        }
    }

    static void must(String what, boolean holds) {
        checks++;
        if (!holds) {
            wrong++;
            System.out.println(title + "not so: " + what);
        }
    }

    static void end() {
        System.out.println(checks + " checks, " + wrong + " wrong");
        if (wrong != 0) {
            System.exit(1);
        }
    }

    static void say(SmashedHours x, String text) {
        for (int i = 0; i < text.length(); i++) {
            x.type(text.charAt(i));
        }
    }

    static SmashedHours of(String text) {
        SmashedHours x = new SmashedHours();
        say(x, text);
        x.house();
        return x;
    }

    static SmashedHours given(String text, int set) {
        SmashedHours x = of(text);
        give(x, set);
        return x;
    }

    /** Told, and a night has gone by with these in the silk. */
    static SmashedHours behindNight(String text, int set) {
        SmashedHours x = given(text, set);
        x.night();
        return x;
    }

    static void give(SmashedHours x, int set) {
        for (int p = 0; p < 6; p++) {
            if ((set >> p & 1) == 1) {
                x.gives(p);
            }
        }
    }

    static void wouldAll(String name, SmashedHours x, int... want) {
        for (int p = 0; p < want.length; p++) {
            due(name + " would(" + p + ")", x.would(p), want[p]);
        }
    }

    static void bitsAre(String name, SmashedHours x, int... want) {
        due(name + " now(2)", x.now(2), want.length);
        for (int k = 0; k < 8; k++) {
            due(name + " bit(" + k + ")", x.bit(k), k < want.length ? want[k] : NONE);
        }
    }

    static void nowIs(String name, SmashedHours x, int... want) {
        for (int what = 0; what < want.length; what++) {
            due(name + " now(" + what + ")", x.now(what), want[what]);
        }
    }

    static SmashedHours reads(String text, int items) {
        SmashedHours x = new SmashedHours();
        say(x, text);
        due("house() of \"" + text + "\"", x.house(), items);
        due("letters behind \"" + text + "\"", x.count(2), 0);
        return x;
    }

    static void faultAt(int place, String text) {
        SmashedHours x = given("p20 3;p30 2;w0 1;w1 0;l1;", 1);
        x.tells(3, 0, 1);
        say(x, text);
        refused(x, "house() of \"" + text + "\"", x::house, -10 - place);
    }

    /** A refused call answers so, and all that can be asked answers as it did ahead of it. */
    static void refused(SmashedHours x, String call, IntSupplier made, int want) {
        changesNothing(x, call, made, want);
    }

    static void changesNothing(SmashedHours x, String call, IntSupplier made, int want) {
        String ahead = look(x);
        due(call, made.getAsInt(), want);
        String behind = look(x);
        must(call + " changes nothing: " + ahead + " became " + behind, ahead.equals(behind));
    }

    private static String look(SmashedHours x) {
        StringBuilder seen = new StringBuilder();
        for (int what = 0; what <= 6; what++) {
            seen.append(x.now(what)).append(' ');
        }
        for (int what = 0; what <= 2; what++) {
            seen.append(x.count(what)).append(' ');
        }
        for (int k = 0; k < 8; k++) {
            seen.append(x.bit(k)).append(' ');
        }
        for (int p = 0; p < x.count(0); p++) {
            for (int what = 0; what <= 4; what++) {
                seen.append(x.person(p, what)).append(' ');
            }
            for (int k = 0; k < 4; k++) {
                seen.append(x.wants(p, k)).append(' ');
            }
        }
        return seen.append(x.fits()).append(' ').append(x.trace()).toString();
    }

    static String blanks(int many) {
        return " ".repeat(many);
    }

    static String people(int many) {
        return "p1 1;".repeat(many);
    }
}
