public final class WhatItIsTest {
    private static final int CALLS = 512;
    private static final int STEPS = 8;

    public static void main(String[] args) {
        Check.holds("An object is used for at most 512 calls after it has been made",
                "every call up to the 512th", WhatItIsTest::everyCallUpToTheLast);
        Check.holds("An object is used for at most 512 calls after it has been made",
                "refused calls up to the 512th", WhatItIsTest::refusedCallsUpToTheLast);
        Check.end();
    }

    /** Put off by one call more each time, so that each step once comes as the 512th call. */
    private static void everyCallUpToTheLast() {
        for (int delay = 0; delay < STEPS; delay++) {
            TightRange t = new TightRange();
            for (int call = 0; call < delay; call++) {
                Check.due("low(5), call " + (call + 1), t.low(5), 0);
            }
            for (int call = delay; call < CALLS; call++) {
                int turn = (call - delay) / STEPS;
                dueStep(t, (call - delay) % STEPS, turn, ", call " + (call + 1));
            }
        }
    }

    /** One round: register 0 gets a range that moves by one each turn, 1 its complement, 2 both; 3 stays whole. */
    private static void dueStep(TightRange t, int step, int turn, String when) {
        switch (step) {
            case 0:
                Check.due("set(0, " + turn + ", " + (turn + 5) + ")" + when, t.set(0, turn, turn + 5), 0);
                break;
            case 1:
                Check.due("apply(1, 0, 0)" + when, t.apply(1, 0, 0), 0);
                break;
            case 2:
                Check.due("low(1)" + when, t.low(1), 122 - turn);
                break;
            case 3:
                Check.due("combine(2, 9, 0, 1)" + when, t.combine(2, 9, 0, 1), 0);
                break;
            case 4:
                Check.due("high(2)" + when, t.high(2), Math.max(turn + 5, 127 - turn));
                break;
            case 5:
                Check.due("less(0, 1)" + when, t.less(0, 1), turn + 5 < 122 - turn ? 1 : 2);
                break;
            case 6:
                Check.due("apart(0, 3)" + when, t.apart(0, 3), apartFromAll(turn, turn + 5));
                break;
            default:
                Check.due("set(6, 0, 0)" + when, t.set(6, 0, 0), -1);
                break;
        }
    }

    /** The other number is free in each bit that this one has not. */
    private static int apartFromAll(int low, int high) {
        int pairs = 0;
        for (int x = low; x <= high; x++) {
            pairs += 1 << (7 - Integer.bitCount(x));
        }
        return pairs;
    }

    private static void refusedCallsUpToTheLast() {
        TightRange t = Check.sixRanges();
        int made = Check.REGISTERS;
        int looks = 2 * Check.REGISTERS;
        for (int call = made; call < CALLS - looks; call++) {
            Check.due("combine(0, 11, 1, 2), call " + (call + 1), t.combine(0, 11, 1, 2), -1);
        }
        Check.dueSixRanges("500 calls", t);
    }
}
