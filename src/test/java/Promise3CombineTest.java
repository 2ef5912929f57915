public final class Promise3CombineTest {
    private static final int KINDS = 11;
    private static final String TIGHTEST = "The register dst becomes the tightest range of the set of all results of x and y";

    public static void main(String[] args) {
        Check.holds(TIGHTEST, "known answers", Promise3CombineTest::knownAnswers);
        Check.holds(TIGHTEST, "every pair of single numbers", Promise3CombineTest::everyPairOfNumbers);
        Check.holds(TIGHTEST, "ranges at the edges", Promise3CombineTest::edgeRangesAreTight);
        Check.holds(TIGHTEST, "strewn ranges", Promise3CombineTest::strewnRangesAreTight);
        Check.holds(TIGHTEST, "every placing of dst, a and b, and no other register changes",
                Promise3CombineTest::everyPlacingOfRegisters);
        Check.holds("chosen apart, also if a = b", "one register as a and b, also as dst",
                Promise3CombineTest::sameRegisterIsChosenApart);
        Check.end();
    }

    /** Worked out by hand from the document. Each row: kind, a, b, and the range due. */
    private static void knownAnswers() {
        int[][] rows = {
            {0, 10, 20, 100, 110, 0, 127}, {0, 10, 20, 100, 107, 110, 127}, {0, 10, 20, 118, 120, 0, 12},
            {0, 127, 127, 127, 127, 126, 126}, {0, 64, 64, 64, 64, 0, 0},
            {1, 10, 20, 100, 110, 28, 48}, {1, 5, 5, 5, 5, 0, 0}, {1, 5, 6, 6, 7, 0, 127}, {1, 0, 0, 1, 1, 127, 127},
            {2, 60, 70, 57, 66, 0, 66}, {2, 12, 13, 10, 11, 8, 9}, {3, 12, 13, 10, 11, 14, 15},
            {4, 12, 13, 10, 11, 6, 7}, {4, 5, 5, 5, 5, 0, 0},
            {5, 127, 127, 127, 127, 126, 126}, {5, 1, 1, 127, 127, 0, 0}, {5, 2, 2, 64, 64, 1, 1}, {5, 0, 127, 0, 127, 0, 126},
            {6, 10, 20, 3, 4, 2, 6}, {6, 0, 0, 0, 0, 127, 127}, {6, 5, 5, 0, 2, 2, 127}, {6, 127, 127, 1, 1, 127, 127},
            {6, 3, 3, 4, 9, 0, 0}, {6, 0, 0, 0, 1, 0, 127},
            {7, 10, 20, 15, 17, 15, 20}, {7, 10, 20, 5, 40, 10, 40},
            {8, 10, 20, 100, 110, 80, 100}, {8, 10, 20, 15, 40, 0, 30}, {8, 20, 20, 4, 5, 15, 16},
            {9, 10, 20, 100, 110, 10, 110}, {9, 100, 110, 10, 20, 10, 110}, {9, 0, 127, 5, 5, 0, 127}, {9, 5, 5, 0, 127, 0, 127},
            {10, 10, 20, 15, 40, 15, 20}, {10, 10, 20, 20, 40, 20, 20}, {10, 0, 127, 5, 5, 5, 5}, {10, 5, 5, 0, 127, 5, 5},
        };
        for (int[] row : rows) {
            TightRange t = new TightRange();
            t.set(0, row[1], row[2]);
            t.set(1, row[3], row[4]);
            String call = callOf(row[0], row[1], row[2], row[3], row[4]);
            Check.due(call, t.combine(2, row[0], 0, 1), 0);
            Check.dueRange(call, t, 2, row[5], row[6]);
        }
    }

    private static void everyPairOfNumbers() {
        for (int x = 0; x <= 127; x++) {
            for (int y = 0; y <= 127; y++) {
                compareAllKinds(x, x, y, y);
            }
        }
    }

    private static void edgeRangesAreTight() {
        for (int[] a : Check.RANGES) {
            for (int[] b : Check.RANGES) {
                compareAllKinds(a[0], a[1], b[0], b[1]);
            }
        }
    }

    private static void strewnRangesAreTight() {
        int state = 1;
        int[] ends = new int[4];
        for (int i = 0; i < 3000; i++) {
            for (int j = 0; j < 4; j++) {
                state = state * 1103515245 + 12345;
                ends[j] = (state >>> 16) & 127;
            }
            compareAllKinds(Math.min(ends[0], ends[1]), Math.max(ends[0], ends[1]),
                    Math.min(ends[2], ends[3]), Math.max(ends[2], ends[3]));
        }
    }

    private static void compareAllKinds(int aLow, int aHigh, int bLow, int bHigh) {
        TightRange t = new TightRange();
        t.set(0, aLow, aHigh);
        t.set(1, bLow, bHigh);
        for (int kind = 0; kind < KINDS; kind++) {
            boolean[] results = resultsOf(kind, aLow, aHigh, bLow, bHigh);
            String call = callOf(kind, aLow, aHigh, bLow, bHigh);
            t.set(2, 77, 78);
            int got = t.combine(2, kind, 0, 1);
            if (leastOf(results) < 0) {
                Check.due(call, got, -2);
                Check.dueRange(call, t, 2, 77, 78);
            } else {
                Check.due(call, got, 0);
                Check.dueRange(call, t, 2, leastOf(results), greatestOf(results));
            }
            Check.dueRange(call, t, 0, aLow, aHigh);
            Check.dueRange(call, t, 1, bLow, bHigh);
        }
    }

    private static void sameRegisterIsChosenApart() {
        for (int[] a : Check.RANGES) {
            for (int kind = 0; kind < KINDS; kind++) {
                boolean[] results = resultsOf(kind, a[0], a[1], a[0], a[1]);
                TightRange t = new TightRange();
                t.set(3, a[0], a[1]);
                String call = callOf(kind, a[0], a[1], a[0], a[1]) + " of one register";
                Check.due(call, t.combine(4, kind, 3, 3), 0);
                Check.dueRange(call, t, 4, leastOf(results), greatestOf(results));
                Check.due(call + " into itself", t.combine(3, kind, 3, 3), 0);
                Check.dueRange(call + " into itself", t, 3, leastOf(results), greatestOf(results));
            }
        }
    }

    private static void everyPlacingOfRegisters() {
        for (int dst = 0; dst < Check.REGISTERS; dst++) {
            for (int a = 0; a < Check.REGISTERS; a++) {
                for (int b = 0; b < Check.REGISTERS; b++) {
                    for (int kind = 0; kind < 10; kind++) {
                        TightRange t = Check.sixRanges();
                        boolean[] results = resultsOf(kind, 10 * a, 10 * a + 5, 10 * b, 10 * b + 5);
                        String call = "combine(" + dst + ", " + kind + ", " + a + ", " + b + ")";
                        Check.due(call, t.combine(dst, kind, a, b), 0);
                        Check.dueRange(call, t, dst, leastOf(results), greatestOf(results));
                        Check.dueSixRangesBut(call, t, dst);
                    }
                }
            }
        }
    }

    private static boolean[] resultsOf(int kind, int aLow, int aHigh, int bLow, int bHigh) {
        boolean[] results = new boolean[128];
        for (int x = aLow; x <= aHigh; x++) {
            for (int y = bLow; y <= bHigh; y++) {
                if (kind == 9) {
                    results[x] = true;
                    results[y] = true;
                } else if (kind == 10) {
                    results[x] |= bLow <= x && x <= bHigh;
                } else {
                    results[resultOf(kind, x, y)] = true;
                }
            }
        }
        return results;
    }

    /** Where it can be, by another way than the class goes. */
    private static int resultOf(int kind, int x, int y) {
        switch (kind) {
            case 0: return x + y >= 128 ? x + y - 128 : x + y;
            case 1: return x >= y ? x - y : x - y + 128;
            case 2: return x + y - (x | y);
            case 3: return 127 - ((127 - x) & (127 - y));
            case 4: return (x | y) - (x & y);
            case 5: return (x * y) >> 7;
            case 6: return y == 0 ? 127 : Math.floorDiv(x, y);
            case 7: return Math.max(x, y);
            case 8: return Math.abs(x - y);
            default: throw new IllegalArgumentException("kind " + kind);
        }
    }

    private static int leastOf(boolean[] results) {
        for (int i = 0; i < results.length; i++) {
            if (results[i]) {
                return i;
            }
        }
        return -1;
    }

    private static int greatestOf(boolean[] results) {
        for (int i = results.length - 1; i >= 0; i--) {
            if (results[i]) {
                return i;
            }
        }
        return -1;
    }

    private static String callOf(int kind, int aLow, int aHigh, int bLow, int bHigh) {
        return "combine of kind " + kind + " of (" + aLow + ", " + aHigh + ") and (" + bLow + ", " + bHigh + ")";
    }
}
