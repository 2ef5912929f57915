public final class Promise6HighTest {
    private static final String GREATEST = "The greatest number that the register holds";

    public static void main(String[] args) {
        Check.holds(GREATEST, "every register", Promise6HighTest::everyRegister);
        Check.holds(GREATEST, "0, 127, one number and the whole", Promise6HighTest::outermostRanges);
        Check.holds(GREATEST, "after each call that changes a register", Promise6HighTest::afterEachChange);
        Check.holds("The greatest number that the register holds, or -1.", "register too small", () -> refuses(Check.TOO_SMALL));
        Check.holds("The greatest number that the register holds, or -1.", "register too large", () -> refuses(Check.TOO_LARGE));
        Check.end();
    }

    private static void everyRegister() {
        TightRange t = Check.sixRanges();
        for (int r = 0; r < Check.REGISTERS; r++) {
            Check.due("high(" + r + ")", t.high(r), 10 * r + 5);
            Check.due("high(" + r + ") again", t.high(r), 10 * r + 5);
        }
        Check.dueSixRanges("high", t);
    }

    private static void outermostRanges() {
        TightRange t = new TightRange();
        Check.due("high of a new object", t.high(3), 127);
        t.set(0, 0, 0);
        Check.due("high of (0, 0)", t.high(0), 0);
        t.set(5, 127, 127);
        Check.due("high of (127, 127)", t.high(5), 127);
        t.set(5, 0, 126);
        Check.due("high of (0, 126)", t.high(5), 126);
    }

    private static void afterEachChange() {
        TightRange t = Check.sixRanges();
        t.combine(0, 9, 2, 3);
        Check.due("high(0) after combine(0, 9, 2, 3)", t.high(0), 35);
        t.apply(0, 0, 0);
        Check.due("high(0) after apply(0, 0, 0)", t.high(0), 107);
        t.set(0, 7, 9);
        Check.due("high(0) after set(0, 7, 9)", t.high(0), 9);
    }

    private static void refuses(int[] wrongRegisters) {
        TightRange t = Check.sixRanges();
        for (int wrong : wrongRegisters) {
            Check.due("high(" + wrong + ")", t.high(wrong), -1);
        }
        Check.dueSixRanges("high of wrong registers", t);
    }
}
