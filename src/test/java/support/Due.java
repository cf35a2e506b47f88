/** Counts answers that are not the ones that are due, and helps with tapes. */
final class Due {
    static final int BAD = -1000000001;
    static final int NO = -1000000002;
    static final int FULL = -1000000003;
    static final int NONE = -1000000005;
    static final int NOTHING = -1000000011;
    static final int KIND = -1000000012;
    static final int INDEX = -1000000013;
    static final int SIZE = -1000000014;

    private static int asked;
    private static int wrong;

    private Due() {
    }

    static void is(String what, long got, long want) {
        asked++;
        if (got != want) {
            wrong++;
            System.out.println(what + " answered " + got + ", due is " + want);
        }
    }

    static void holds(String what, boolean yes) {
        is(what, yes ? 1 : 0, 1);
    }

    /** Ends the test: with exit code 1 if an answer was wrong. */
    static void end() {
        System.out.println(asked + " answers, " + wrong + " wrong");
        if (wrong != 0) {
            System.exit(1);
        }
    }

    /** Brings a text to an empty tape, each char a byte. */
    static void tape(NotWorn x, String text) {
        int length = text.length();
        for (int at = 0; at < length; at += 12) {
            x.feed(four(text, at), four(text, at + 4), four(text, at + 8));
        }
        x.trim(length);
    }

    private static int four(String text, int at) {
        int four = 0;
        for (int i = at; i < at + 4; i++) {
            four = four << 8 | (i < text.length() ? text.charAt(i) & 255 : 32);
        }
        return four;
    }

    /** What text() answers for a tape. */
    static int text(NotWorn x, String text) {
        tape(x, text);
        return x.text();
    }

    static int name(int first, int second, int third) {
        return 25 * first + 5 * second + third;
    }
}
