public final class Promise2SetTest {
    public static void main(String[] args) {
        everyRangeCanBeSet();
        eachRegisterIsSetAlone();
        wrongRegistersAreRefused();
        wrongRangesAreRefused();
        Check.end();
    }

    private static void everyRangeCanBeSet() {
        for (int low = 0; low <= 127; low++) {
            // A new object for each low: one object is good for 512 calls.
            TightRange t = new TightRange();
            for (int high = low; high <= 127; high++) {
                String call = "set(2, " + low + ", " + high + ")";
                Check.due(call, t.set(2, low, high), 0);
                Check.dueRange(call, t, 2, low, high);
            }
        }
    }

    private static void eachRegisterIsSetAlone() {
        for (int r = 0; r < Check.REGISTERS; r++) {
            TightRange t = Check.sixRanges();
            String call = "set(" + r + ", 98, 99)";
            Check.due(call, t.set(r, 98, 99), 0);
            Check.dueRange(call, t, r, 98, 99);
            Check.dueSixRangesBut(call, t, r);
        }
    }

    private static void wrongRegistersAreRefused() {
        for (int r : Check.NO_REGISTERS) {
            TightRange t = Check.sixRanges();
            String call = "set(" + r + ", 1, 2)";
            Check.due(call, t.set(r, 1, 2), -1);
            Check.due(call + " with a wrong range", t.set(r, 2, 1), -1);
            Check.dueSixRanges(call, t);
        }
    }

    private static void wrongRangesAreRefused() {
        int min = Integer.MIN_VALUE;
        int max = Integer.MAX_VALUE;
        int[][] wrong = {
            {5, 4}, {127, 0}, {1, 0}, {127, 126}, {-1, 4}, {-1, -1}, {-2, -1}, {0, 128}, {127, 128},
            {128, 128}, {128, 127}, {-1, 128}, {0, -1}, {min, 0}, {0, max}, {min, max}, {max, min},
            {max, max}, {min, min},
        };
        for (int[] range : wrong) {
            for (int r = 0; r < Check.REGISTERS; r++) {
                TightRange t = Check.sixRanges();
                String call = "set(" + r + ", " + range[0] + ", " + range[1] + ")";
                Check.due(call, t.set(r, range[0], range[1]), -1);
                Check.dueSixRanges(call, t);
            }
        }
    }
}
