public final class Promise5LowTest {
    private static final String LEAST = "The least number that the register holds";

    public static void main(String[] args) {
        Check.holds(LEAST, "every register", Promise5LowTest::everyRegister);
        Check.holds(LEAST, "0, 127, one number and the whole", Promise5LowTest::outermostRanges);
        Check.holds(LEAST, "after each call that changes a register", Promise5LowTest::afterEachChange);
        Check.holds("The least number that the register holds, or -1.", "register too small", () -> refuses(Check.TOO_SMALL));
        Check.holds("The least number that the register holds, or -1.", "register too large", () -> refuses(Check.TOO_LARGE));
        Check.end();
    }

    private static void everyRegister() {
        TightRange t = Check.sixRanges();
        for (int r = 0; r < Check.REGISTERS; r++) {
            Check.due("low(" + r + ")", t.low(r), 10 * r);
            Check.due("low(" + r + ") again", t.low(r), 10 * r);
        }
        Check.dueSixRanges("low", t);
    }

    private static void outermostRanges() {
        TightRange t = new TightRange();
        Check.due("low of a new object", t.low(3), 0);
        t.set(0, 0, 0);
        Check.due("low of (0, 0)", t.low(0), 0);
        t.set(5, 127, 127);
        Check.due("low of (127, 127)", t.low(5), 127);
        t.set(5, 1, 127);
        Check.due("low of (1, 127)", t.low(5), 1);
    }

    private static void afterEachChange() {
        TightRange t = Check.sixRanges();
        t.combine(0, 9, 2, 3);
        Check.due("low(0) after combine(0, 9, 2, 3)", t.low(0), 20);
        t.apply(0, 0, 0);
        Check.due("low(0) after apply(0, 0, 0)", t.low(0), 92);
        t.set(0, 7, 9);
        Check.due("low(0) after set(0, 7, 9)", t.low(0), 7);
    }

    private static void refuses(int[] wrongRegisters) {
        TightRange t = Check.sixRanges();
        for (int wrong : wrongRegisters) {
            Check.due("low(" + wrong + ")", t.low(wrong), -1);
        }
        Check.dueSixRanges("low of wrong registers", t);
    }
}
