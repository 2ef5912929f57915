public final class Promise8ApartTest {
    private static final String PAIRS = "How many pairs (x, y), x held by register a and y by register b, have x & y = 0";

    public static void main(String[] args) {
        Check.holds(PAIRS, "no pair", () -> dueRows(new int[][] {
            {127, 127, 1, 127, 0}, {1, 127, 127, 127, 0}, {1, 1, 1, 1, 0}, {64, 127, 64, 127, 0}, {1, 1, 3, 3, 0}, {127, 127, 127, 127, 0},
        }));
        Check.holds(PAIRS, "every pair", () -> dueRows(new int[][] {
            {0, 0, 0, 0, 1}, {0, 0, 0, 127, 128}, {0, 127, 0, 0, 128}, {1, 1, 2, 2, 1}, {0, 63, 64, 64, 64}, {0, 0, 127, 127, 1},
        }));
        Check.holds(PAIRS, "some pairs, the most of all among them", () -> dueRows(new int[][] {
            {0, 127, 0, 127, 2187}, {5, 5, 0, 127, 32}, {127, 127, 0, 127, 1}, {1, 3, 1, 3, 2}, {10, 20, 100, 110, 33}, {21, 42, 43, 84, 140},
        }));
        Check.holds(PAIRS, "ranges at the edges", Promise8ApartTest::edgeRanges);
        Check.holds(PAIRS, "one register", Promise8ApartTest::oneRegister);
        Check.holds(PAIRS, "every two registers", Promise8ApartTest::everyTwoRegisters);
        Check.holds("have x & y = 0; -1.", "register too small", () -> refuses(Check.TOO_SMALL));
        Check.holds("have x & y = 0; -1.", "register too large", () -> refuses(Check.TOO_LARGE));
        Check.holds("Nothing is promised beyond the answers and state changes described above", "apart changes nothing",
                Promise8ApartTest::askingChangesNothing);
        Check.end();
    }

    /** Each row: a, b, and the count due. */
    private static void dueRows(int[][] rows) {
        for (int[] row : rows) {
            compare(row[0], row[1], row[2], row[3], row[4]);
        }
    }

    private static void edgeRanges() {
        for (int[] a : Check.RANGES) {
            for (int[] b : Check.RANGES) {
                compare(a[0], a[1], b[0], b[1], pairsApart(a[0], a[1], b[0], b[1]));
            }
        }
    }

    private static void oneRegister() {
        TightRange t = new TightRange();
        Check.due("apart(3, 3) of (0, 127)", t.apart(3, 3), 2187);
        t.set(3, 0, 1);
        Check.due("apart(3, 3) of (0, 1)", t.apart(3, 3), 3);
        t.set(3, 60, 70);
        Check.due("apart(3, 3) of (60, 70)", t.apart(3, 3), 18);
        t.set(3, 120, 127);
        Check.due("apart(3, 3) of (120, 127)", t.apart(3, 3), 0);
    }

    private static void refuses(int[] wrongRegisters) {
        for (int wrong : wrongRegisters) {
            TightRange t = Check.sixRanges();
            Check.due("apart(" + wrong + ", 0)", t.apart(wrong, 0), -1);
            Check.due("apart(0, " + wrong + ")", t.apart(0, wrong), -1);
            Check.due("apart(" + wrong + ", " + wrong + ")", t.apart(wrong, wrong), -1);
            Check.dueSixRanges("apart with register " + wrong, t);
        }
    }

    private static void everyTwoRegisters() {
        TightRange t = Check.sixRanges();
        for (int a = 0; a < Check.REGISTERS; a++) {
            for (int b = 0; b < Check.REGISTERS; b++) {
                int want = pairsApart(10 * a, 10 * a + 5, 10 * b, 10 * b + 5);
                Check.due("apart(" + a + ", " + b + ")", t.apart(a, b), want);
            }
        }
    }

    private static void askingChangesNothing() {
        TightRange t = Check.sixRanges();
        for (int a = 0; a < Check.REGISTERS; a++) {
            for (int b = 0; b < Check.REGISTERS; b++) {
                t.apart(a, b);
            }
        }
        Check.dueSixRanges("apart", t);
    }

    private static void compare(int aLow, int aHigh, int bLow, int bHigh, int want) {
        TightRange t = new TightRange();
        t.set(5, aLow, aHigh);
        t.set(0, bLow, bHigh);
        Check.due("apart of (" + aLow + ", " + aHigh + ") and (" + bLow + ", " + bHigh + ")", t.apart(5, 0), want);
    }

    private static int pairsApart(int aLow, int aHigh, int bLow, int bHigh) {
        int pairs = 0;
        for (int x = aLow; x <= aHigh; x++) {
            for (int y = bLow; y <= bHigh; y++) {
                // No bit is in both just if nothing is carried in the sum.
                pairs += x + y == (x | y) ? 1 : 0;
            }
        }
        return pairs;
    }
}
