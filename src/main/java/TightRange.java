public final class TightRange {
    private static final int REGISTERS = 6;
    private static final int BITS = 7;
    private static final int NUMBERS = 128;
    private static final int GREATEST_NUMBER = 127;
    private static final int GREATEST_ROOT = 11;

    private static final int DONE = 0;
    private static final int REFUSED = -1;
    private static final int NO_RESULT = -2;

    private static final int SUM = 0;
    private static final int DIFFERENCE = 1;
    private static final int AND = 2;
    private static final int OR = 3;
    private static final int XOR = 4;
    private static final int HIGH_PRODUCT = 5;
    private static final int QUOTIENT = 6;
    private static final int GREATER = 7;
    private static final int DISTANCE = 8;
    private static final int BOTH = 9;
    private static final int SHARED = 10;

    private static final int COMPLEMENT = 0;
    private static final int ONES = 1;
    private static final int REVERSE = 2;
    private static final int ROOT = 3;
    private static final int TWICE = 4;

    private static final int NEVER = 0;
    private static final int ALWAYS = 1;
    private static final int SOMETIMES = 2;

    private final int[] lows = new int[REGISTERS];
    private final int[] highs = new int[REGISTERS];

    // The results of one call gather here, not in dst: dst may be a register
    // that is still being read, and it must stay as it was without a result.
    private int least;
    private int greatest;

    public TightRange() {
        for (int register = 0; register < REGISTERS; register++) {
            lows[register] = 0;
            highs[register] = GREATEST_NUMBER;
        }
    }

    public int set(int register, int low, int high) {
        if (!isRegister(register)) {
            return REFUSED;
        }
        if (low < 0 || low > high || high > GREATEST_NUMBER) {
            return REFUSED;
        }
        lows[register] = low;
        highs[register] = high;
        return DONE;
    }

    public int combine(int dst, int kind, int a, int b) {
        if (!isRegister(dst) || !isRegister(a) || !isRegister(b)) {
            return REFUSED;
        }
        if (kind < SUM || kind > SHARED) {
            return REFUSED;
        }
        startGathering();
        int lastX = highs[a];
        int lastY = highs[b];
        for (int x = lows[a]; x <= lastX; x++) {
            for (int y = lows[b]; y <= lastY; y++) {
                gatherResultsOfPair(kind, x, y);
            }
        }
        return keepGathered(dst);
    }

    public int apply(int dst, int kind, int a) {
        if (!isRegister(dst) || !isRegister(a)) {
            return REFUSED;
        }
        if (kind < COMPLEMENT || kind > TWICE) {
            return REFUSED;
        }
        startGathering();
        int lastX = highs[a];
        for (int x = lows[a]; x <= lastX; x++) {
            int result = resultOfNumber(kind, x);
            gather(result);
        }
        return keepGathered(dst);
    }

    public int low(int register) {
        if (!isRegister(register)) {
            return REFUSED;
        }
        return lows[register];
    }

    public int high(int register) {
        if (!isRegister(register)) {
            return REFUSED;
        }
        return highs[register];
    }

    public int less(int a, int b) {
        if (!isRegister(a) || !isRegister(b)) {
            return REFUSED;
        }
        if (highs[a] < lows[b]) {
            return ALWAYS;
        }
        if (lows[a] >= highs[b]) {
            return NEVER;
        }
        return SOMETIMES;
    }

    public int apart(int a, int b) {
        if (!isRegister(a) || !isRegister(b)) {
            return REFUSED;
        }
        int pairs = 0;
        int lastX = highs[a];
        int lastY = highs[b];
        for (int x = lows[a]; x <= lastX; x++) {
            for (int y = lows[b]; y <= lastY; y++) {
                if ((x & y) == 0) {
                    pairs++;
                }
            }
        }
        return pairs;
    }

    private static boolean isRegister(int register) {
        return register >= 0 && register < REGISTERS;
    }

    // Starts with least above greatest, so that no result at all can be told.
    private void startGathering() {
        least = NUMBERS;
        greatest = -1;
    }

    private void gather(int result) {
        if (result < least) {
            least = result;
        }
        if (result > greatest) {
            greatest = result;
        }
    }

    private int keepGathered(int dst) {
        if (least > greatest) {
            return NO_RESULT;
        }
        lows[dst] = least;
        highs[dst] = greatest;
        return DONE;
    }

    private void gatherResultsOfPair(int kind, int x, int y) {
        if (kind == BOTH) {
            gather(x);
            gather(y);
        } else if (kind == SHARED) {
            // Every y of b comes by, so x is met here just if b holds it.
            if (x == y) {
                gather(x);
            }
        } else {
            int result = resultOfPair(kind, x, y);
            gather(result);
        }
    }

    private static int resultOfPair(int kind, int x, int y) {
        switch (kind) {
            case SUM:
                return (x + y) % NUMBERS;
            case DIFFERENCE:
                // NUMBERS is added since % of a negative number is not from 0 up.
                return (x - y + NUMBERS) % NUMBERS;
            case AND:
                return x & y;
            case OR:
                return x | y;
            case XOR:
                return x ^ y;
            case HIGH_PRODUCT:
                return x * y / NUMBERS;
            case QUOTIENT:
                return y == 0 ? GREATEST_NUMBER : x / y;
            case GREATER:
                return x > y ? x : y;
            case DISTANCE:
            default:
                return x > y ? x - y : y - x;
        }
    }

    private static int resultOfNumber(int kind, int x) {
        switch (kind) {
            case COMPLEMENT:
                return GREATEST_NUMBER - x;
            case ONES:
                return onesOf(x);
            case REVERSE:
                return reverseOf(x);
            case ROOT:
                return rootOf(x);
            case TWICE:
            default:
                return 2 * x % NUMBERS;
        }
    }

    private static int onesOf(int x) {
        int ones = 0;
        for (int bit = 0; bit < BITS; bit++) {
            ones += (x >> bit) & 1;
        }
        return ones;
    }

    private static int reverseOf(int x) {
        int reverse = 0;
        for (int bit = 0; bit < BITS; bit++) {
            reverse = (reverse << 1) | ((x >> bit) & 1);
        }
        return reverse;
    }

    private static int rootOf(int x) {
        int root = 0;
        for (int r = 1; r <= GREATEST_ROOT; r++) {
            if (r * r <= x) {
                root = r;
            }
        }
        return root;
    }
}
