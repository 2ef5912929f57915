public final class Promise7LessTest {
    public static void main(String[] args) {
        knownAnswers();
        edgeRanges();
        rangesThatTouch();
        oneRegister();
        wrongRegistersAreRefused();
        askingChangesNothing();
        Check.end();
    }

    /** Each row: a, b, and the answer due. */
    private static void knownAnswers() {
        int[][] rows = {
            {10, 20, 100, 110, 1}, {100, 110, 10, 20, 0}, {10, 20, 21, 30, 1}, {10, 20, 20, 30, 2},
            {20, 30, 10, 20, 0}, {20, 30, 10, 21, 2}, {10, 20, 15, 15, 2}, {15, 15, 10, 20, 2},
            {5, 5, 5, 5, 0}, {5, 5, 6, 6, 1}, {6, 6, 5, 5, 0}, {0, 0, 0, 127, 2}, {127, 127, 0, 127, 0},
            {0, 127, 127, 127, 2}, {0, 127, 0, 0, 0}, {0, 126, 127, 127, 1}, {0, 0, 1, 127, 1},
        };
        for (int[] row : rows) {
            compare(row[0], row[1], row[2], row[3], row[4]);
        }
    }

    private static void edgeRanges() {
        for (int[] a : Check.RANGES) {
            for (int[] b : Check.RANGES) {
                compare(a[0], a[1], b[0], b[1], byPairs(a[0], a[1], b[0], b[1]));
            }
        }
    }

    private static void rangesThatTouch() {
        for (int low = 0; low <= 12; low++) {
            for (int high = low; high <= 12; high++) {
                compare(low, high, 5, 7, byPairs(low, high, 5, 7));
                compare(low, high, 6, 6, byPairs(low, high, 6, 6));
            }
        }
    }

    private static void oneRegister() {
        TightRange t = new TightRange();
        Check.due("less(2, 2) of (0, 127)", t.less(2, 2), 2);
        t.set(2, 9, 9);
        Check.due("less(2, 2) of (9, 9)", t.less(2, 2), 0);
        t.set(2, 9, 10);
        Check.due("less(2, 2) of (9, 10)", t.less(2, 2), 2);
    }

    private static void wrongRegistersAreRefused() {
        for (int wrong : Check.NO_REGISTERS) {
            TightRange t = Check.sixRanges();
            Check.due("less(" + wrong + ", 0)", t.less(wrong, 0), -1);
            Check.due("less(0, " + wrong + ")", t.less(0, wrong), -1);
            Check.due("less(" + wrong + ", " + wrong + ")", t.less(wrong, wrong), -1);
            Check.dueSixRanges("less with register " + wrong, t);
        }
    }

    private static void askingChangesNothing() {
        TightRange t = Check.sixRanges();
        for (int a = 0; a < Check.REGISTERS; a++) {
            for (int b = 0; b < Check.REGISTERS; b++) {
                Check.due("less(" + a + ", " + b + ")", t.less(a, b), a < b ? 1 : a > b ? 0 : 2);
            }
        }
        Check.dueSixRanges("less", t);
    }

    private static void compare(int aLow, int aHigh, int bLow, int bHigh, int want) {
        TightRange t = new TightRange();
        t.set(1, aLow, aHigh);
        t.set(4, bLow, bHigh);
        Check.due("less of (" + aLow + ", " + aHigh + ") and (" + bLow + ", " + bHigh + ")", t.less(1, 4), want);
    }

    private static int byPairs(int aLow, int aHigh, int bLow, int bHigh) {
        int pairs = 0;
        int lesser = 0;
        for (int x = aLow; x <= aHigh; x++) {
            for (int y = bLow; y <= bHigh; y++) {
                pairs++;
                lesser += x < y ? 1 : 0;
            }
        }
        return lesser == pairs ? 1 : lesser == 0 ? 0 : 2;
    }
}
