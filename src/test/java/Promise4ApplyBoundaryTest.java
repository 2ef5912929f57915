/** The boundary cases of apply, each worked out by hand. A row of a table: the range of a, the range due. */
public final class Promise4ApplyBoundaryTest {
    private static final int KINDS = 5;
    private static final String REFUSED = "A register number out of range is refused: the call answers -1 and changes nothing.";
    private static final String WRONG_KIND = "-1 (also if kind is not from 0 to 4)";

    public static void main(String[] args) {
        kinds();
        Check.holds(REFUSED, "apply, too small", () -> refusesRegisters(Check.TOO_SMALL));
        Check.holds(REFUSED, "apply, too large", () -> refusesRegisters(Check.TOO_LARGE));
        Check.holds(WRONG_KIND, "too small", () -> refusesKinds(new int[] {-1, -2, -5, -128, Integer.MIN_VALUE}));
        Check.holds(WRONG_KIND, "too large", () -> refusesKinds(new int[] {5, 6, 8, 10, 127, Integer.MAX_VALUE}));
        Check.holds(WRONG_KIND, "0 and 4 and each between are kinds", Promise4ApplyBoundaryTest::everyKindIsTaken);
        Check.end();
    }

    private static void kinds() {
        Check.holds("0 127 - x", "the least, the greatest, the whole", () -> dueRows(0, new int[][] {
            {0, 0, 127, 127}, {127, 127, 0, 0}, {0, 127, 0, 127}, {63, 64, 63, 64}, {0, 1, 126, 127},
        }));
        Check.holds("1 the number of ones among its seven bits", "no one, the outer bits, seven ones, not from the ends", () -> dueRows(1, new int[][] {
            {0, 0, 0, 0}, {1, 1, 1, 1}, {64, 64, 1, 1}, {65, 65, 2, 2}, {127, 127, 7, 7}, {63, 64, 1, 6}, {0, 127, 0, 7},
            {126, 127, 6, 7}, {1, 126, 1, 6}, {3, 5, 1, 2}, {6, 8, 1, 3},
        }));
        Check.holds("2 x with its bits in reverse order (bit 0 becomes bit 6, and so on)", "each bit, none and all, not from the ends",
                () -> dueRows(2, new int[][] {
            {1, 1, 64, 64}, {2, 2, 32, 32}, {4, 4, 16, 16}, {8, 8, 8, 8}, {16, 16, 4, 4}, {32, 32, 2, 2}, {64, 64, 1, 1},
            {0, 0, 0, 0}, {127, 127, 127, 127}, {0, 127, 0, 127}, {63, 64, 1, 126}, {126, 127, 63, 127}, {3, 5, 16, 96}, {2, 4, 16, 96},
        }));
        Check.holds("3 the greatest r with r * r <= x", "each square and the number below it", Promise4ApplyBoundaryTest::squares);
        Check.holds("3 the greatest r with r * r <= x", "the least, the greatest, the whole", () -> dueRows(3, new int[][] {
            {0, 0, 0, 0}, {127, 127, 11, 11}, {0, 127, 0, 11}, {122, 127, 11, 11}, {1, 3, 1, 1},
        }));
        Check.holds("4 (2 * x) modulo 128", "just not wrapped", () -> dueRows(4, new int[][] {
            {0, 0, 0, 0}, {63, 63, 126, 126}, {0, 63, 0, 126}, {62, 63, 124, 126},
        }));
        Check.holds("4 (2 * x) modulo 128", "wrapped", () -> dueRows(4, new int[][] {
            {64, 64, 0, 0}, {65, 65, 2, 2}, {127, 127, 126, 126}, {65, 70, 2, 12},
        }));
        Check.holds("4 (2 * x) modulo 128", "some wrapped", () -> dueRows(4, new int[][] {
            {63, 64, 0, 126}, {60, 65, 0, 126}, {0, 127, 0, 126}, {63, 127, 0, 126},
        }));
    }

    private static void dueRows(int kind, int[][] rows) {
        for (int[] row : rows) {
            TightRange t = Check.sixRanges();
            t.set(1, row[0], row[1]);
            String call = "apply of kind " + kind + " of (" + row[0] + ", " + row[1] + ")";
            Check.due(call, t.apply(4, kind, 1), 0);
            Check.dueRange(call, t, 4, row[2], row[3]);
        }
    }

    private static void squares() {
        for (int r = 1; r <= 11; r++) {
            dueRows(3, new int[][] {{r * r, r * r, r, r}, {r * r - 1, r * r - 1, r - 1, r - 1}, {r * r - 1, r * r, r - 1, r}});
        }
    }

    private static void refusesRegisters(int[] wrongRegisters) {
        for (int wrong : wrongRegisters) {
            for (int kind = 0; kind < KINDS; kind++) {
                TightRange t = Check.sixRanges();
                String call = "apply of kind " + kind + " with register " + wrong;
                Check.due(call + " as dst", t.apply(wrong, kind, 0), -1);
                Check.due(call + " as a", t.apply(0, kind, wrong), -1);
                Check.due(call + " twice", t.apply(wrong, kind, wrong), -1);
                Check.dueSixRanges(call, t);
            }
        }
    }

    private static void refusesKinds(int[] wrongKinds) {
        for (int kind : wrongKinds) {
            TightRange t = Check.sixRanges();
            String call = "apply of kind " + kind;
            Check.due(call, t.apply(1, kind, 0), -1);
            Check.due(call + " into itself", t.apply(0, kind, 0), -1);
            Check.due(call + " and a wrong register", t.apply(6, kind, 0), -1);
            Check.dueSixRanges(call, t);
        }
    }

    private static void everyKindIsTaken() {
        for (int kind = 0; kind < KINDS; kind++) {
            TightRange t = Check.sixRanges();
            Check.due("apply(0, " + kind + ", 1)", t.apply(0, kind, 1), 0);
        }
    }
}
