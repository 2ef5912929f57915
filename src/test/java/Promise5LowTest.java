public final class Promise5LowTest {
    public static void main(String[] args) {
        TightRange t = Check.sixRanges();
        for (int r = 0; r < Check.REGISTERS; r++) {
            Check.due("low(" + r + ")", t.low(r), 10 * r);
        }
        for (int wrong : Check.NO_REGISTERS) {
            Check.due("low(" + wrong + ")", t.low(wrong), -1);
        }
        t.set(0, 0, 0);
        t.set(5, 127, 127);
        Check.due("low of (0, 0)", t.low(0), 0);
        Check.due("low of (127, 127)", t.low(5), 127);
        Check.due("low of a new object", new TightRange().low(3), 0);
        asking();
        Check.end();
    }

    private static void asking() {
        TightRange t = Check.sixRanges();
        t.low(0);
        t.low(6);
        Check.dueSixRanges("low", t);
    }
}
