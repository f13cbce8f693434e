/** Counts answers that are not the ones that are due; end() exits with 1 if there were any. */
final class Check {
    static final int BEYOND = -1000000001;
    static final int FULL = -1000000002;
    static final int KIND = -1000000003;
    static final int NONE = -1000000004;
    static final int STATE = -1000000005;
    static final int MISSING = -1000000006;
    static final int SIZE = -1000000007;

    /** Numbers that no call has in any of its small ranges. */
    static final int[] FAR = {Integer.MIN_VALUE, -1000, 1000, Integer.MAX_VALUE};

    private static int asked = 0;
    private static int wrong = 0;

    private Check() {
    }

    static void due(String call, long got, long want) {
        asked++;
        if (got != want) {
            wrong++;
            System.out.println(call + " answered " + got + ", due is " + want);
        }
    }

    /** Feeds a text to the tape, byte by byte. */
    static void feed(PenAcres x, String text) {
        for (int i = 0; i < text.length(); i++) {
            x.feed(text.charAt(i), 1);
        }
    }

    /** What field() answers to a text. */
    static int tell(PenAcres x, String text) {
        feed(x, text);
        return x.field();
    }

    /** A set of cells. */
    static long set(int... cells) {
        long bits = 0;
        for (int cell : cells) {
            bits |= 1L << cell;
        }
        return bits;
    }

    static void end() {
        System.out.println(asked + " answers asked, " + wrong + " wrong");
        if (wrong != 0) {
            System.exit(1);
        }
    }
}
