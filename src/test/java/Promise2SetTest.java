public final class Promise2SetTest {
    private static final int MIN = Integer.MIN_VALUE;
    private static final int MAX = Integer.MAX_VALUE;

    public static void main(String[] args) {
        Check.holds("The register gets the range.", "every range", Promise2SetTest::everyRangeCanBeSet);
        Check.holds("The register gets the range.", "the other registers keep theirs", Promise2SetTest::eachRegisterIsSetAlone);
        Check.holds("-1, and changes nothing, if refused", "register too small", () -> refusesRegisters(Check.TOO_SMALL));
        Check.holds("-1, and changes nothing, if refused", "register too large", () -> refusesRegisters(Check.TOO_LARGE));
        Check.holds("not 0 <= low <= high <= 127", "low too small", Promise2SetTest::lowTooSmall);
        Check.holds("not 0 <= low <= high <= 127", "low above high", Promise2SetTest::lowAboveHigh);
        Check.holds("not 0 <= low <= high <= 127", "high too large", Promise2SetTest::highTooLarge);
        Check.holds("not 0 <= low <= high <= 127", "wrong in more than one way", Promise2SetTest::wrongInMoreWays);
        Check.holds("not 0 <= low <= high <= 127", "just not wrong: low is 0, low is high, high is 127",
                Promise2SetTest::justNotWrong);
        Check.end();
    }

    private static void everyRangeCanBeSet() {
        for (int low = 0; low <= 127; low++) {
            // A new object for each low: one object is good for 512 calls.
            TightRange t = new TightRange();
            for (int high = low; high <= 127; high++) {
                String call = "set(2, " + low + ", " + high + ")";
                Check.due(call, t.set(2, low, high), 0);
                Check.dueRange(call, t, 2, low, high);
            }
        }
    }

    private static void eachRegisterIsSetAlone() {
        for (int r = 0; r < Check.REGISTERS; r++) {
            dueSet(r, 98, 99);
        }
    }

    private static void refusesRegisters(int[] wrongRegisters) {
        for (int r : wrongRegisters) {
            dueRefused(r, 1, 2);
            dueRefused(r, 0, 127);
            dueRefused(r, 2, 1);
        }
    }

    private static void lowTooSmall() {
        dueRefusedRanges(new int[][] {{-1, 0}, {-1, 4}, {-1, 127}, {-128, 0}, {MIN, 0}, {MIN, 127}});
    }

    private static void lowAboveHigh() {
        dueRefusedRanges(new int[][] {{1, 0}, {5, 4}, {64, 63}, {127, 126}, {127, 0}});
    }

    private static void highTooLarge() {
        dueRefusedRanges(new int[][] {{0, 128}, {4, 128}, {127, 128}, {0, 255}, {0, MAX}, {127, MAX}});
    }

    private static void wrongInMoreWays() {
        dueRefusedRanges(new int[][] {
            {-1, -1}, {-2, -1}, {-1, -2}, {0, -1}, {128, 128}, {128, 129}, {128, 127}, {129, 128}, {-1, 128},
            {128, -1}, {MIN, MIN}, {MIN, MAX}, {MAX, MIN}, {MAX, MAX},
        });
    }

    private static void justNotWrong() {
        int[][] ranges = {{0, 0}, {0, 1}, {0, 127}, {64, 64}, {126, 127}, {127, 127}};
        for (int[] range : ranges) {
            for (int r = 0; r < Check.REGISTERS; r++) {
                dueSet(r, range[0], range[1]);
            }
        }
    }

    private static void dueRefusedRanges(int[][] ranges) {
        for (int[] range : ranges) {
            for (int r = 0; r < Check.REGISTERS; r++) {
                dueRefused(r, range[0], range[1]);
            }
        }
    }

    private static void dueRefused(int register, int low, int high) {
        TightRange t = Check.sixRanges();
        String call = "set(" + register + ", " + low + ", " + high + ")";
        Check.due(call, t.set(register, low, high), -1);
        Check.dueSixRanges(call, t);
    }

    private static void dueSet(int register, int low, int high) {
        TightRange t = Check.sixRanges();
        String call = "set(" + register + ", " + low + ", " + high + ")";
        Check.due(call, t.set(register, low, high), 0);
        Check.dueRange(call, t, register, low, high);
        Check.dueSixRangesBut(call, t, register);
    }
}
