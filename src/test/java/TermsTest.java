public final class TermsTest {
    public static void main(String[] args) {
        Check.holds("NUMBERS are 0 to 127.", "no result is below 0 or above 127", TermsTest::noResultLeavesTheNumbers);
        Check.holds("A RANGE is a pair (low, high) with 0 <= low <= high <= 127", "the least, the greatest and the whole",
                TermsTest::outermostRanges);
        Check.holds("it holds the numbers from low to high", "both ends are held, their neighbours are not",
                TermsTest::endsAreHeld);
        Check.holds("The TIGHTEST range of a set of numbers that is not empty is the one from its least to its greatest number.",
                "one number, and numbers with a gap", TermsTest::tightestOfFewNumbers);
        Check.holds("REGISTERS 0 to 5 hold ranges", "the first, the last and each between", TermsTest::everyRegisterHolds);
        Check.holds("A register number out of range is refused: the call answers -1 and changes nothing.",
                "too small", () -> everyCallRefuses(Check.TOO_SMALL));
        Check.holds("A register number out of range is refused: the call answers -1 and changes nothing.",
                "too large", () -> everyCallRefuses(Check.TOO_LARGE));
        Check.holds("A register number out of range is refused: the call answers -1 and changes nothing.",
                "later calls answer as without the refused ones", TermsTest::refusedCallsLeaveNoTrace);
        Check.end();
    }

    private static void noResultLeavesTheNumbers() {
        for (int[] a : Check.RANGES) {
            for (int[] b : Check.RANGES) {
                TightRange t = new TightRange();
                t.set(0, a[0], a[1]);
                t.set(1, b[0], b[1]);
                for (int kind = 0; kind <= 10; kind++) {
                    t.combine(2, kind, 0, 1);
                    dueNumbers("combine of kind " + kind, t, 2);
                }
                for (int kind = 0; kind <= 4; kind++) {
                    t.apply(3, kind, 0);
                    dueNumbers("apply of kind " + kind, t, 3);
                }
            }
        }
    }

    private static void dueNumbers(String call, TightRange t, int register) {
        int low = t.low(register);
        int high = t.high(register);
        if (low < 0 || low > high || high > 127) {
            Check.fault(call + " made (" + low + ", " + high + ")");
        }
    }

    private static void outermostRanges() {
        int[][] ranges = {{0, 0}, {127, 127}, {0, 127}, {0, 1}, {126, 127}};
        for (int[] range : ranges) {
            TightRange t = Check.sixRanges();
            String call = "set(3, " + range[0] + ", " + range[1] + ")";
            Check.due(call, t.set(3, range[0], range[1]), 0);
            Check.dueRange(call, t, 3, range[0], range[1]);
            Check.dueSixRangesBut(call, t, 3);
        }
    }

    /** Register 0 holds a number if it shares one with a register that holds it alone. */
    private static void endsAreHeld() {
        for (int[] range : Check.RANGES) {
            TightRange t = new TightRange();
            t.set(0, range[0], range[1]);
            for (int number = 0; number <= 127; number++) {
                boolean held = range[0] <= number && number <= range[1];
                t.set(1, number, number);
                String call = "combine(2, 10, 0, 1) of (" + range[0] + ", " + range[1] + ") and " + number;
                Check.due(call, t.combine(2, 10, 0, 1), held ? 0 : -2);
            }
        }
    }

    private static void tightestOfFewNumbers() {
        TightRange t = new TightRange();
        t.set(0, 9, 9);
        t.set(1, 9, 9);
        Check.due("combine(2, 9, 0, 1) of 9 and 9", t.combine(2, 9, 0, 1), 0);
        Check.dueRange("combine(2, 9, 0, 1) of 9 and 9", t, 2, 9, 9);
        t.set(1, 90, 90);
        Check.due("combine(2, 9, 0, 1) of 9 and 90", t.combine(2, 9, 0, 1), 0);
        Check.dueRange("combine(2, 9, 0, 1) of 9 and 90", t, 2, 9, 90);
        // 64 is 1 and 63 is 126 after the bits are reversed, with nothing between.
        t.set(0, 63, 64);
        Check.due("apply(2, 2, 0) of (63, 64)", t.apply(2, 2, 0), 0);
        Check.dueRange("apply(2, 2, 0) of (63, 64)", t, 2, 1, 126);
    }

    private static void everyRegisterHolds() {
        for (int r = 0; r < Check.REGISTERS; r++) {
            TightRange t = Check.sixRanges();
            Check.due("set(" + r + ", 7, 8)", t.set(r, 7, 8), 0);
            Check.due("low(" + r + ")", t.low(r), 7);
            Check.due("high(" + r + ")", t.high(r), 8);
            Check.due("less(" + r + ", " + r + ")", t.less(r, r), 2);
            Check.due("apart(" + r + ", " + r + ")", t.apart(r, r), 2);
            Check.due("combine(" + r + ", 7, " + r + ", " + r + ")", t.combine(r, 7, r, r), 0);
            Check.dueRange("combine", t, r, 7, 8);
            Check.due("apply(" + r + ", 0, " + r + ")", t.apply(r, 0, r), 0);
            Check.dueRange("apply", t, r, 119, 120);
            Check.dueSixRangesBut("calls with register " + r, t, r);
        }
    }

    private static void everyCallRefuses(int[] wrongRegisters) {
        for (int wrong : wrongRegisters) {
            for (int right = 0; right < Check.REGISTERS; right++) {
                TightRange t = Check.sixRanges();
                dueRefusals(t, wrong, right);
                Check.dueSixRanges("calls with register " + wrong, t);
            }
        }
    }

    private static void dueRefusals(TightRange t, int wrong, int right) {
        String with = " with " + wrong + " beside " + right;
        Check.due("set" + with, t.set(wrong, 1, 2), -1);
        Check.due("combine, dst," + with, t.combine(wrong, 0, right, right), -1);
        Check.due("combine, a," + with, t.combine(right, 0, wrong, right), -1);
        Check.due("combine, b," + with, t.combine(right, 0, right, wrong), -1);
        Check.due("combine, all," + with, t.combine(wrong, 0, wrong, wrong), -1);
        Check.due("apply, dst," + with, t.apply(wrong, 0, right), -1);
        Check.due("apply, a," + with, t.apply(right, 0, wrong), -1);
        Check.due("apply, both," + with, t.apply(wrong, 0, wrong), -1);
        Check.due("low" + with, t.low(wrong), -1);
        Check.due("high" + with, t.high(wrong), -1);
        Check.due("less, a," + with, t.less(wrong, right), -1);
        Check.due("less, b," + with, t.less(right, wrong), -1);
        Check.due("less, both," + with, t.less(wrong, wrong), -1);
        Check.due("apart, a," + with, t.apart(wrong, right), -1);
        Check.due("apart, b," + with, t.apart(right, wrong), -1);
        Check.due("apart, both," + with, t.apart(wrong, wrong), -1);
    }

    /** What low and high don't show could still be spoilt: so two objects go the same way, one with refused calls between. */
    private static void refusedCallsLeaveNoTrace() {
        for (int kind = 0; kind <= 10; kind++) {
            TightRange plain = Check.sixRanges();
            TightRange disturbed = Check.sixRanges();
            dueRefusals(disturbed, 6, 2);
            String call = "combine(0, " + kind + ", 3, 3) after refused calls";
            Check.due(call, disturbed.combine(0, kind, 3, 3), plain.combine(0, kind, 3, 3));
            dueRefusals(disturbed, -1, 0);
            Check.dueRange(call, disturbed, 0, plain.low(0), plain.high(0));
            Check.due("apply after refused calls", disturbed.apply(1, kind % 5, 0), plain.apply(1, kind % 5, 0));
            dueRefusals(disturbed, 6, 1);
            Check.dueRange("apply after refused calls", disturbed, 1, plain.low(1), plain.high(1));
            Check.due("less after refused calls", disturbed.less(1, 2), plain.less(1, 2));
            Check.due("apart after refused calls", disturbed.apart(1, 2), plain.apart(1, 2));
            for (int r = 0; r < Check.REGISTERS; r++) {
                Check.dueRange("all these calls", disturbed, r, plain.low(r), plain.high(r));
            }
        }
    }
}
