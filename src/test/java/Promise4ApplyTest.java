import java.util.stream.IntStream;

public final class Promise4ApplyTest {
    private static final int KINDS = 5;
    private static final String TIGHTEST = "The register dst becomes the tightest range of the set of all results of x, where";

    public static void main(String[] args) {
        Check.holds(TIGHTEST, "known answers", Promise4ApplyTest::knownAnswers);
        Check.holds(TIGHTEST, "every range, also into itself", Promise4ApplyTest::everyRangeIsTight);
        Check.holds(TIGHTEST, "every placing of dst and a, and no other register changes", Promise4ApplyTest::everyPlacingOfRegisters);
        Check.end();
    }

    /** Worked out by hand from the document. Each row: kind, a, and the range due. */
    private static void knownAnswers() {
        int[][] rows = {
            {0, 10, 20, 107, 117}, {0, 0, 0, 127, 127}, {0, 127, 127, 0, 0}, {0, 0, 127, 0, 127},
            {1, 10, 20, 1, 4}, {1, 0, 0, 0, 0}, {1, 127, 127, 7, 7}, {1, 64, 64, 1, 1}, {1, 0, 127, 0, 7},
            {2, 1, 1, 64, 64}, {2, 64, 64, 1, 1}, {2, 8, 8, 8, 8}, {2, 3, 3, 96, 96}, {2, 0, 1, 0, 64}, {2, 1, 4, 16, 96},
            {3, 0, 0, 0, 0}, {3, 3, 4, 1, 2}, {3, 120, 121, 10, 11}, {3, 127, 127, 11, 11}, {3, 99, 100, 9, 10}, {3, 0, 127, 0, 11},
            {4, 10, 20, 20, 40}, {4, 63, 64, 0, 126}, {4, 64, 65, 0, 2}, {4, 127, 127, 126, 126}, {4, 64, 64, 0, 0},
        };
        for (int[] row : rows) {
            TightRange t = new TightRange();
            t.set(0, row[1], row[2]);
            String call = "apply of kind " + row[0] + " of (" + row[1] + ", " + row[2] + ")";
            Check.due(call, t.apply(2, row[0], 0), 0);
            Check.dueRange(call, t, 2, row[3], row[4]);
        }
    }

    private static void everyRangeIsTight() {
        for (int kind = 0; kind < KINDS; kind++) {
            for (int low = 0; low <= 127; low++) {
                int least = 128;
                int greatest = -1;
                for (int high = low; high <= 127; high++) {
                    least = Math.min(least, resultOf(kind, high));
                    greatest = Math.max(greatest, resultOf(kind, high));
                    TightRange t = new TightRange();
                    t.set(5, low, high);
                    String call = "apply of kind " + kind + " of (" + low + ", " + high + ")";
                    Check.due(call, t.apply(0, kind, 5), 0);
                    Check.dueRange(call, t, 0, least, greatest);
                    Check.dueRange(call, t, 5, low, high);
                    Check.due(call + " into itself", t.apply(5, kind, 5), 0);
                    Check.dueRange(call + " into itself", t, 5, least, greatest);
                }
            }
        }
    }

    private static void everyPlacingOfRegisters() {
        for (int dst = 0; dst < Check.REGISTERS; dst++) {
            for (int a = 0; a < Check.REGISTERS; a++) {
                for (int kind = 0; kind < KINDS; kind++) {
                    int[] results = resultsOf(kind, 10 * a, 10 * a + 5);
                    TightRange t = Check.sixRanges();
                    String call = "apply(" + dst + ", " + kind + ", " + a + ")";
                    Check.due(call, t.apply(dst, kind, a), 0);
                    Check.dueRange(call, t, dst, results[0], results[results.length - 1]);
                    Check.dueSixRangesBut(call, t, dst);
                }
            }
        }
    }

    private static int[] resultsOf(int kind, int low, int high) {
        return IntStream.rangeClosed(low, high).map(x -> resultOf(kind, x)).sorted().toArray();
    }

    /** Where it can be, by the Java library instead of the class's own way. */
    private static int resultOf(int kind, int x) {
        switch (kind) {
            case 0: return x ^ 127;
            case 1: return Integer.bitCount(x);
            case 2: return Integer.reverse(x) >>> 25;
            case 3: return (int) Math.floor(Math.sqrt(x));
            case 4: return x < 64 ? x + x : x + x - 128;
            default: throw new IllegalArgumentException("kind " + kind);
        }
    }
}
