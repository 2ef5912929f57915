/** What the tests share: telling wrong answers with their sentence, and looking at all registers at once. */
final class Check {
    static final int REGISTERS = 6;
    static final int[] TOO_SMALL = {-1, -2, -6, -128, Integer.MIN_VALUE};
    static final int[] TOO_LARGE = {6, 7, 127, 128, Integer.MAX_VALUE};

    /** Ranges that meet every edge: single numbers, both ends, the powers of two, the whole. */
    static final int[][] RANGES = {
        {0, 0}, {1, 1}, {64, 64}, {127, 127}, {0, 1}, {126, 127}, {0, 127}, {1, 127}, {0, 126},
        {63, 64}, {60, 70}, {10, 20}, {5, 5}, {11, 13}, {100, 110}, {43, 84}, {21, 42}, {15, 17},
        {32, 95}, {96, 127}, {0, 63}, {64, 127}, {3, 90},
    };

    private static int wrong = 0;
    private static String standsFor = "";

    private Check() {
    }

    /**
     * Runs one test under the words of the document that it stands for.
     * The words are the document's own, so that they can be searched there; the case says which side of them is meant.
     */
    static void holds(String words, String boundaryCase, Runnable test) {
        standsFor = "\"" + words + "\" (" + boundaryCase + "): ";
        try {
            test.run();
        } catch (RuntimeException e) {
            // Told as a wrong answer, so that the sentence stands beside it and the other tests still run.
            fault("threw " + e);
        }
        standsFor = "";
    }

    static void due(String call, int got, int want) {
        if (got != want) {
            fault(call + " answered " + got + ", due is " + want);
        }
    }

    static void dueRange(String call, TightRange t, int register, int low, int high) {
        due("low(" + register + ") after " + call, t.low(register), low);
        due("high(" + register + ") after " + call, t.high(register), high);
    }

    static void fault(String what) {
        wrong++;
        System.out.println(standsFor + what);
    }

    /** Six ranges that all differ, so that a change of any register can be seen. */
    static TightRange sixRanges() {
        TightRange t = new TightRange();
        for (int r = 0; r < REGISTERS; r++) {
            due("set", t.set(r, 10 * r, 10 * r + 5), 0);
        }
        return t;
    }

    static void dueSixRangesBut(String call, TightRange t, int changed) {
        for (int r = 0; r < REGISTERS; r++) {
            if (r != changed) {
                dueRange(call, t, r, 10 * r, 10 * r + 5);
            }
        }
    }

    static void dueSixRanges(String call, TightRange t) {
        dueSixRangesBut(call, t, -1);
    }

    static void end() {
        if (wrong != 0) {
            System.out.println(wrong + " answers are not as due");
            System.exit(1);
        }
    }
}
