public final class Promise1NewObjectTest {
    public static void main(String[] args) {
        Check.holds("at the start each holds (0, 127)", "low and high of every register",
                Promise1NewObjectTest::everyRegisterIsFull);
        Check.holds("at the start each holds (0, 127)", "every other call meets full registers",
                Promise1NewObjectTest::everyCallMeetsFullRegisters);
        Check.holds("at the start each holds (0, 127)", "another object's registers are its own",
                Promise1NewObjectTest::objectsDoNotShareRegisters);
        Check.end();
    }

    private static void everyRegisterIsFull() {
        TightRange t = new TightRange();
        for (int r = 0; r < Check.REGISTERS; r++) {
            Check.dueRange("new", t, r, 0, 127);
        }
    }

    private static void everyCallMeetsFullRegisters() {
        for (int r = 0; r < Check.REGISTERS; r++) {
            int other = (r + 1) % Check.REGISTERS;
            Check.due("less on a new object", new TightRange().less(r, other), 2);
            Check.due("apart on a new object", new TightRange().apart(r, other), 2187);
            TightRange combined = new TightRange();
            Check.due("combine on a new object", combined.combine(r, 5, r, other), 0);
            Check.dueRange("combine on a new object", combined, r, 0, 126);
            TightRange applied = new TightRange();
            Check.due("apply on a new object", applied.apply(r, 3, other), 0);
            Check.dueRange("apply on a new object", applied, r, 0, 11);
        }
    }

    private static void objectsDoNotShareRegisters() {
        TightRange one = new TightRange();
        TightRange other = new TightRange();
        one.set(0, 3, 4);
        Check.dueRange("set on another object", other, 0, 0, 127);
        Check.dueRange("new after a set", new TightRange(), 0, 0, 127);
    }
}
