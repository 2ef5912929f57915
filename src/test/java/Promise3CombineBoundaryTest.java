/** The boundary cases of combine, each worked out by hand. A row of a table: the range of a, that of b, the range due. */
public final class Promise3CombineBoundaryTest {
    private static final int KINDS = 11;
    private static final String REFUSED = "A register number out of range is refused: the call answers -1 and changes nothing.";
    private static final String WRONG_KIND = "-1 (also if kind is not from 0 to 10)";
    private static final String NO_RESULT = "-2, and changes nothing, if there is no result";

    /** Pairs of ranges that share no number, those that only just do not among them. */
    private static final int[][] SHARING_NONE = {
        {10, 20, 21, 30}, {21, 30, 10, 20}, {10, 20, 22, 30}, {22, 30, 10, 20}, {0, 0, 127, 127}, {127, 127, 0, 0},
        {0, 0, 1, 127}, {1, 127, 0, 0}, {0, 126, 127, 127}, {127, 127, 0, 126}, {63, 63, 64, 64}, {64, 127, 0, 63},
    };

    public static void main(String[] args) {
        kindsOfReckoning();
        kindsOfChoosing();
        Check.holds("chosen apart, also if a = b", "one register, by hand", Promise3CombineBoundaryTest::oneRegister);
        Check.holds(REFUSED, "combine, too small", () -> refusesRegisters(Check.TOO_SMALL));
        Check.holds(REFUSED, "combine, too large", () -> refusesRegisters(Check.TOO_LARGE));
        Check.holds(WRONG_KIND, "too small", () -> refusesKinds(new int[] {-1, -2, -11, -128, Integer.MIN_VALUE}));
        Check.holds(WRONG_KIND, "too large", () -> refusesKinds(new int[] {11, 12, 16, 127, 128, Integer.MAX_VALUE}));
        Check.holds(WRONG_KIND, "0 and 10 and each between are kinds", Promise3CombineBoundaryTest::everyKindIsTaken);
        Check.holds(NO_RESULT, "no number is shared; dst is another register, a or b",
                Promise3CombineBoundaryTest::noResultChangesNothing);
        Check.holds(NO_RESULT, "later calls answer as without it", Promise3CombineBoundaryTest::noResultLeavesNoTrace);
        Check.holds("only for kind 10", "every other kind has a result of the same ranges",
                Promise3CombineBoundaryTest::otherKindsHaveResults);
        Check.holds("tested in this order", "-1 before -2", Promise3CombineBoundaryTest::refusedBeforeNoResult);
        Check.end();
    }

    private static void kindsOfReckoning() {
        Check.holds("0 (x + y) modulo 128", "just not wrapped", () -> dueRows(0, new int[][] {
            {127, 127, 0, 0, 127, 127}, {63, 63, 64, 64, 127, 127}, {0, 0, 0, 0, 0, 0}, {0, 63, 0, 64, 0, 127}, {60, 63, 60, 64, 120, 127},
        }));
        Check.holds("0 (x + y) modulo 128", "wrapped", () -> dueRows(0, new int[][] {
            {127, 127, 1, 1, 0, 0}, {64, 64, 64, 64, 0, 0}, {127, 127, 127, 127, 126, 126}, {64, 70, 64, 70, 0, 12},
        }));
        Check.holds("0 (x + y) modulo 128", "some wrapped", () -> dueRows(0, new int[][] {
            {63, 64, 64, 64, 0, 127}, {126, 127, 1, 1, 0, 127}, {0, 127, 0, 127, 0, 127}, {0, 127, 1, 1, 0, 127},
        }));
        Check.holds("1 (x - y) modulo 128 (from 0 up)", "not below 0", () -> dueRows(1, new int[][] {
            {0, 0, 0, 0, 0, 0}, {127, 127, 127, 127, 0, 0}, {127, 127, 0, 0, 127, 127}, {7, 9, 3, 7, 0, 6},
        }));
        Check.holds("1 (x - y) modulo 128 (from 0 up)", "below 0", () -> dueRows(1, new int[][] {
            {0, 0, 1, 1, 127, 127}, {0, 0, 127, 127, 1, 1}, {126, 126, 127, 127, 127, 127}, {0, 3, 4, 7, 121, 127},
        }));
        Check.holds("1 (x - y) modulo 128 (from 0 up)", "some below 0", () -> dueRows(1, new int[][] {
            {5, 6, 6, 6, 0, 127}, {3, 9, 6, 6, 0, 127}, {6, 6, 3, 9, 0, 127}, {0, 0, 0, 1, 0, 127}, {0, 127, 0, 127, 0, 127},
        }));
        Check.holds("2 x & y", "nothing, everything, the least or the greatest not from the ends", () -> dueRows(2, new int[][] {
            {0, 0, 0, 127, 0, 0}, {127, 127, 127, 127, 127, 127}, {127, 127, 3, 9, 3, 9}, {63, 63, 64, 64, 0, 0}, {63, 64, 63, 64, 0, 64},
            {64, 127, 64, 127, 64, 127}, {3, 5, 3, 3, 0, 3}, {3, 3, 3, 5, 0, 3}, {6, 8, 7, 7, 0, 7}, {7, 7, 6, 8, 0, 7},
        }));
        Check.holds("3 x | y", "nothing, everything, the least or the greatest not from the ends", () -> dueRows(3, new int[][] {
            {0, 0, 0, 0, 0, 0}, {127, 127, 0, 127, 127, 127}, {0, 0, 3, 9, 3, 9}, {63, 63, 64, 64, 127, 127}, {63, 64, 63, 64, 63, 127},
            {0, 63, 0, 63, 0, 63}, {3, 5, 4, 4, 4, 7}, {4, 4, 3, 5, 4, 7}, {2, 4, 4, 4, 4, 7}, {4, 4, 2, 4, 4, 7},
        }));
        Check.holds("4 x ^ y", "nothing, everything, the least or the greatest not from the ends", () -> dueRows(4, new int[][] {
            {0, 0, 0, 0, 0, 0}, {127, 127, 127, 127, 0, 0}, {0, 0, 127, 127, 127, 127}, {63, 64, 63, 64, 0, 127}, {127, 127, 3, 9, 118, 124},
            {64, 127, 64, 127, 0, 63}, {2, 4, 3, 3, 0, 7}, {3, 3, 2, 4, 0, 7}, {2, 4, 4, 4, 0, 7}, {4, 4, 2, 4, 0, 7},
        }));
        Check.holds("5 x * y / 128, rounded down", "about 128, none and the most", () -> dueRows(5, new int[][] {
            {127, 127, 1, 1, 0, 0}, {64, 64, 2, 2, 1, 1}, {43, 43, 3, 3, 1, 1}, {85, 85, 3, 3, 1, 1}, {64, 64, 4, 4, 2, 2},
            {0, 0, 0, 127, 0, 0}, {127, 127, 127, 127, 126, 126}, {0, 127, 0, 127, 0, 126}, {127, 127, 1, 2, 0, 1},
        }));
        Check.holds("6 x / y, rounded down", "about whole quotients, the least and the most", () -> dueRows(6, new int[][] {
            {3, 3, 4, 4, 0, 0}, {4, 4, 4, 4, 1, 1}, {7, 7, 4, 4, 1, 1}, {8, 8, 4, 4, 2, 2}, {0, 0, 1, 127, 0, 0}, {127, 127, 1, 1, 127, 127},
            {126, 126, 127, 127, 0, 0}, {127, 127, 127, 127, 1, 1}, {127, 127, 2, 2, 63, 63}, {0, 127, 1, 127, 0, 127}, {5, 5, 1, 2, 2, 5},
        }));
        Check.holds("127 if y is 0", "y only 0", () -> dueRows(6, new int[][] {
            {0, 0, 0, 0, 127, 127}, {5, 5, 0, 0, 127, 127}, {127, 127, 0, 0, 127, 127}, {0, 127, 0, 0, 127, 127},
        }));
        Check.holds("127 if y is 0", "y 0 among others", () -> dueRows(6, new int[][] {
            {5, 5, 0, 2, 2, 127}, {0, 0, 0, 1, 0, 127}, {0, 0, 0, 127, 0, 127}, {127, 127, 0, 1, 127, 127}, {60, 70, 0, 1, 60, 127},
        }));
    }

    private static void kindsOfChoosing() {
        Check.holds("7 the greater of x and y", "alike, either one, and in turn", () -> dueRows(7, new int[][] {
            {9, 9, 9, 9, 9, 9}, {8, 8, 9, 9, 9, 9}, {9, 9, 8, 8, 9, 9}, {0, 0, 127, 127, 127, 127}, {0, 0, 0, 0, 0, 0},
            {10, 20, 15, 30, 15, 30}, {15, 30, 10, 20, 15, 30}, {0, 127, 64, 64, 64, 127},
        }));
        Check.holds("8 the greater less the lesser", "alike, either one, and both", () -> dueRows(8, new int[][] {
            {9, 9, 9, 9, 0, 0}, {8, 8, 9, 9, 1, 1}, {9, 9, 8, 8, 1, 1}, {0, 0, 127, 127, 127, 127}, {127, 127, 0, 0, 127, 127},
            {10, 20, 20, 21, 0, 11}, {10, 20, 15, 15, 0, 5}, {10, 20, 21, 21, 1, 11}, {21, 21, 10, 20, 1, 11}, {0, 127, 0, 127, 0, 127},
        }));
        Check.holds("9 both x and y are results", "alike, one inside the other, with a gap", () -> dueRows(9, new int[][] {
            {9, 9, 9, 9, 9, 9}, {0, 127, 5, 5, 0, 127}, {5, 5, 0, 127, 0, 127}, {0, 0, 127, 127, 0, 127}, {127, 127, 0, 0, 0, 127},
            {10, 20, 15, 30, 10, 30}, {15, 30, 10, 20, 10, 30},
        }));
        Check.holds("10 x, if register b holds it too", "one shared at either end, some, all", () -> dueRows(10, new int[][] {
            {10, 20, 20, 30, 20, 20}, {20, 30, 10, 20, 20, 20}, {10, 20, 19, 30, 19, 20}, {19, 30, 10, 20, 19, 20}, {9, 9, 9, 9, 9, 9},
            {0, 0, 0, 127, 0, 0}, {127, 127, 0, 127, 127, 127}, {0, 127, 0, 0, 0, 0}, {0, 127, 127, 127, 127, 127},
            {0, 127, 0, 127, 0, 127}, {10, 20, 12, 15, 12, 15}, {12, 15, 10, 20, 12, 15},
        }));
    }

    private static void dueRows(int kind, int[][] rows) {
        for (int[] row : rows) {
            TightRange t = Check.sixRanges();
            t.set(1, row[0], row[1]);
            t.set(3, row[2], row[3]);
            String call = "combine of kind " + kind + " of (" + row[0] + ", " + row[1] + ") and (" + row[2] + ", " + row[3] + ")";
            Check.due(call, t.combine(4, kind, 1, 3), 0);
            Check.dueRange(call, t, 4, row[4], row[5]);
        }
    }

    /** Were y always x, kinds 1, 4 and 8 would give 0 alone, kind 6 1 alone, and kind 0 no 11. */
    private static void oneRegister() {
        int[][] rows = {
            {0, 5, 6, 10, 12}, {1, 5, 6, 0, 127}, {2, 5, 6, 4, 6}, {3, 5, 6, 5, 7}, {4, 5, 6, 0, 3}, {5, 127, 127, 126, 126},
            {6, 5, 6, 0, 1}, {7, 5, 6, 5, 6}, {8, 3, 9, 0, 6}, {9, 5, 6, 5, 6}, {10, 5, 6, 5, 6},
        };
        for (int[] row : rows) {
            for (int dst = 2; dst <= 3; dst++) {
                TightRange t = Check.sixRanges();
                t.set(2, row[1], row[2]);
                String call = "combine(" + dst + ", " + row[0] + ", 2, 2) of (" + row[1] + ", " + row[2] + ")";
                Check.due(call, t.combine(dst, row[0], 2, 2), 0);
                Check.dueRange(call, t, dst, row[3], row[4]);
            }
        }
    }

    private static void refusesRegisters(int[] wrongRegisters) {
        for (int wrong : wrongRegisters) {
            for (int kind = 0; kind < KINDS; kind++) {
                TightRange t = Check.sixRanges();
                String call = "combine of kind " + kind + " with register " + wrong;
                Check.due(call + " as dst", t.combine(wrong, kind, 1, 1), -1);
                Check.due(call + " as a", t.combine(0, kind, wrong, 1), -1);
                Check.due(call + " as b", t.combine(0, kind, 1, wrong), -1);
                Check.due(call + " thrice", t.combine(wrong, kind, wrong, wrong), -1);
                Check.dueSixRanges(call, t);
            }
        }
    }

    private static void refusesKinds(int[] wrongKinds) {
        for (int kind : wrongKinds) {
            TightRange t = Check.sixRanges();
            String call = "combine of kind " + kind;
            Check.due(call, t.combine(2, kind, 0, 1), -1);
            Check.due(call + " of one register", t.combine(2, kind, 1, 1), -1);
            Check.due(call + " into itself", t.combine(1, kind, 1, 1), -1);
            Check.due(call + " and a wrong register", t.combine(6, kind, 0, 1), -1);
            Check.dueSixRanges(call, t);
        }
    }

    private static void everyKindIsTaken() {
        for (int kind = 0; kind < KINDS; kind++) {
            TightRange t = Check.sixRanges();
            Check.due("combine(0, " + kind + ", 1, 1)", t.combine(0, kind, 1, 1), 0);
        }
    }

    private static void noResultChangesNothing() {
        for (int[] row : SHARING_NONE) {
            for (int dst = 0; dst < Check.REGISTERS; dst++) {
                TightRange t = Check.sixRanges();
                t.set(1, row[0], row[1]);
                t.set(4, row[2], row[3]);
                String call = callOf(dst, 10, row);
                Check.due(call, t.combine(dst, 10, 1, 4), -2);
                Check.dueRange(call, t, 0, 0, 5);
                Check.dueRange(call, t, 1, row[0], row[1]);
                Check.dueRange(call, t, 2, 20, 25);
                Check.dueRange(call, t, 3, 30, 35);
                Check.dueRange(call, t, 4, row[2], row[3]);
                Check.dueRange(call, t, 5, 50, 55);
            }
        }
    }

    private static void noResultLeavesNoTrace() {
        TightRange t = Check.sixRanges();
        Check.due("combine(0, 10, 1, 2)", t.combine(0, 10, 1, 2), -2);
        Check.due("combine(0, 10, 3, 3) after no result", t.combine(0, 10, 3, 3), 0);
        Check.dueRange("combine(0, 10, 3, 3) after no result", t, 0, 30, 35);
        Check.due("combine(0, 10, 2, 1)", t.combine(0, 10, 2, 1), -2);
        Check.due("apply(4, 0, 0) after no result", t.apply(4, 0, 0), 0);
        Check.dueRange("apply(4, 0, 0) after no result", t, 4, 92, 97);
        Check.due("combine(0, 10, 2, 1)", t.combine(0, 10, 2, 1), -2);
        Check.due("combine(0, 10, 2, 1) again", t.combine(0, 10, 2, 1), -2);
        Check.dueRange("no result twice", t, 0, 30, 35);
    }

    private static void otherKindsHaveResults() {
        for (int[] row : SHARING_NONE) {
            for (int kind = 0; kind < 10; kind++) {
                TightRange t = Check.sixRanges();
                t.set(1, row[0], row[1]);
                t.set(4, row[2], row[3]);
                Check.due(callOf(0, kind, row), t.combine(0, kind, 1, 4), 0);
            }
        }
    }

    private static void refusedBeforeNoResult() {
        int[] wrongKinds = {-1, 11};
        int[] wrongRegisters = {-1, 6};
        TightRange t = Check.sixRanges();
        for (int wrong : wrongRegisters) {
            // Registers 1 and 2 share no number.
            Check.due("combine(" + wrong + ", 10, 1, 2)", t.combine(wrong, 10, 1, 2), -1);
            Check.due("combine(0, 10, " + wrong + ", 2)", t.combine(0, 10, wrong, 2), -1);
            Check.due("combine(0, 10, 1, " + wrong + ")", t.combine(0, 10, 1, wrong), -1);
        }
        for (int kind : wrongKinds) {
            Check.due("combine(0, " + kind + ", 1, 2)", t.combine(0, kind, 1, 2), -1);
        }
        Check.due("combine(0, 10, 1, 2)", t.combine(0, 10, 1, 2), -2);
        Check.dueSixRanges("calls refused or without a result", t);
    }

    private static String callOf(int dst, int kind, int[] row) {
        return "combine(" + dst + ", " + kind + ", 1, 4) of (" + row[0] + ", " + row[1] + ") and (" + row[2] + ", " + row[3] + ")";
    }
}
