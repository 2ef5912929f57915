public final class Promise6HighTest {
    public static void main(String[] args) {
        TightRange t = Check.sixRanges();
        for (int r = 0; r < Check.REGISTERS; r++) {
            Check.due("high(" + r + ")", t.high(r), 10 * r + 5);
        }
        for (int wrong : Check.NO_REGISTERS) {
            Check.due("high(" + wrong + ")", t.high(wrong), -1);
        }
        t.set(0, 0, 0);
        t.set(5, 127, 127);
        Check.due("high of (0, 0)", t.high(0), 0);
        Check.due("high of (127, 127)", t.high(5), 127);
        Check.due("high of a new object", new TightRange().high(3), 127);
        asking();
        Check.end();
    }

    private static void asking() {
        TightRange t = Check.sixRanges();
        t.high(0);
        t.high(6);
        Check.dueSixRanges("high", t);
    }
}
