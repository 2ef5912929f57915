public final class Promise1NewObjectTest {
    public static void main(String[] args) {
        everyRegisterHoldsAllNumbers();
        objectsDoNotShareRegisters();
        Check.end();
    }

    private static void everyRegisterHoldsAllNumbers() {
        TightRange t = new TightRange();
        for (int r = 0; r < Check.REGISTERS; r++) {
            Check.dueRange("new", t, r, 0, 127);
        }
    }

    private static void objectsDoNotShareRegisters() {
        TightRange one = new TightRange();
        TightRange other = new TightRange();
        one.set(0, 3, 4);
        Check.dueRange("set on another object", other, 0, 0, 127);
        Check.dueRange("new after a set", new TightRange(), 0, 0, 127);
    }
}
