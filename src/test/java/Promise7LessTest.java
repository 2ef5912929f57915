public final class Promise7LessTest {
    private static final String WHOLE = "1 if x < y for all numbers x that register a holds and y that register b holds"
            + " (chosen apart), 0 if for none, 2 otherwise; -1.";

    public static void main(String[] args) {
        Check.holds("1 if x < y for all numbers x", "only just for all", () -> dueRows(1, new int[][] {
            {10, 20, 21, 30}, {5, 5, 6, 6}, {0, 0, 1, 1}, {126, 126, 127, 127}, {0, 126, 127, 127}, {0, 0, 1, 127}, {0, 63, 64, 127},
            {0, 0, 127, 127},
        }));
        Check.holds("0 if for none", "only just for none, since x = y is not less", () -> dueRows(0, new int[][] {
            {20, 30, 10, 20}, {5, 5, 5, 5}, {6, 6, 5, 5}, {0, 0, 0, 0}, {127, 127, 127, 127}, {127, 127, 0, 127}, {0, 127, 0, 0},
            {64, 127, 0, 64}, {127, 127, 0, 0},
        }));
        Check.holds("2 otherwise", "for one pair alone, and for all pairs but one", () -> dueRows(2, new int[][] {
            {20, 30, 10, 21}, {10, 20, 20, 30}, {0, 0, 0, 127}, {0, 127, 127, 127}, {126, 127, 0, 127}, {0, 127, 0, 1}, {5, 6, 5, 6},
            {10, 20, 15, 15}, {15, 15, 10, 20},
        }));
        Check.holds(WHOLE, "ranges at the edges", Promise7LessTest::edgeRanges);
        Check.holds(WHOLE, "ranges that touch", Promise7LessTest::rangesThatTouch);
        Check.holds("(chosen apart), 0 if for none", "one register", Promise7LessTest::oneRegister);
        Check.holds("2 otherwise; -1.", "register too small", () -> refuses(Check.TOO_SMALL));
        Check.holds("2 otherwise; -1.", "register too large", () -> refuses(Check.TOO_LARGE));
        Check.holds("Nothing is promised beyond the answers and state changes described above", "less changes nothing",
                Promise7LessTest::askingChangesNothing);
        Check.end();
    }

    private static void dueRows(int want, int[][] rows) {
        for (int[] row : rows) {
            compare(row[0], row[1], row[2], row[3], want);
        }
    }

    private static void edgeRanges() {
        for (int[] a : Check.RANGES) {
            for (int[] b : Check.RANGES) {
                compare(a[0], a[1], b[0], b[1], byPairs(a[0], a[1], b[0], b[1]));
            }
        }
    }

    private static void rangesThatTouch() {
        for (int low = 0; low <= 12; low++) {
            for (int high = low; high <= 12; high++) {
                compare(low, high, 5, 7, byPairs(low, high, 5, 7));
                compare(low, high, 6, 6, byPairs(low, high, 6, 6));
            }
        }
    }

    private static void oneRegister() {
        TightRange t = new TightRange();
        Check.due("less(2, 2) of (0, 127)", t.less(2, 2), 2);
        t.set(2, 9, 9);
        Check.due("less(2, 2) of (9, 9)", t.less(2, 2), 0);
        t.set(2, 9, 10);
        Check.due("less(2, 2) of (9, 10)", t.less(2, 2), 2);
    }

    private static void refuses(int[] wrongRegisters) {
        for (int wrong : wrongRegisters) {
            TightRange t = Check.sixRanges();
            Check.due("less(" + wrong + ", 0)", t.less(wrong, 0), -1);
            Check.due("less(0, " + wrong + ")", t.less(0, wrong), -1);
            Check.due("less(" + wrong + ", " + wrong + ")", t.less(wrong, wrong), -1);
            Check.dueSixRanges("less with register " + wrong, t);
        }
    }

    private static void askingChangesNothing() {
        TightRange t = Check.sixRanges();
        for (int a = 0; a < Check.REGISTERS; a++) {
            for (int b = 0; b < Check.REGISTERS; b++) {
                Check.due("less(" + a + ", " + b + ")", t.less(a, b), a < b ? 1 : a > b ? 0 : 2);
            }
        }
        Check.dueSixRanges("less", t);
    }

    private static void compare(int aLow, int aHigh, int bLow, int bHigh, int want) {
        TightRange t = new TightRange();
        t.set(1, aLow, aHigh);
        t.set(4, bLow, bHigh);
        Check.due("less of (" + aLow + ", " + aHigh + ") and (" + bLow + ", " + bHigh + ")", t.less(1, 4), want);
    }

    private static int byPairs(int aLow, int aHigh, int bLow, int bHigh) {
        int pairs = 0;
        int lesser = 0;
        for (int x = aLow; x <= aHigh; x++) {
            for (int y = bLow; y <= bHigh; y++) {
                pairs++;
                lesser += x < y ? 1 : 0;
            }
        }
        return lesser == pairs ? 1 : lesser == 0 ? 0 : 2;
    }
}
