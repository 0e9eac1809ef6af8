/** A test for each boundary that promises 1 to 5 name: a new object and the calls that change registers. */
public final class BoundaryChangesTest {
    private static final int[] TOO_SMALL = {-1, -2, -7, -8, -9, -256, Integer.MIN_VALUE, Integer.MIN_VALUE + 7};
    private static final int[] TOO_LARGE = {8, 9, 15, 16, 32, 64, 256, 65536, 1 << 30, Integer.MAX_VALUE};
    private static final int[] OPS_TOO_SMALL = {-1, -2, -15, -16, -17, Integer.MIN_VALUE, Integer.MIN_VALUE + 3};
    private static final int[] OPS_TOO_LARGE = {16, 17, 31, 32, 64, 256, 65536, 1 << 30, Integer.MAX_VALUE};
    private static final int[] DIGITS_TOO_SMALL = {-1, -2, -9, -10, -256, Integer.MIN_VALUE};
    private static final int[] DIGITS_TOO_LARGE = {10, 11, 16, 19, 100, 256, 65536, Integer.MAX_VALUE};

    public static void main(String[] args) {
        newRegistersAreZero();
        newObjectAnswersAsZero();
        setTakesTheFirstAndTheLastRegister();
        setRefusesARegister(TOO_SMALL, "too small");
        setRefusesARegister(TOO_LARGE, "too large");
        xIsTheLowestThreeBits();
        yIsTheNextThreeBits();
        operateTakesTheFirstAndTheLastOperation();
        operateRefusesAnOperation(OPS_TOO_SMALL, "too small");
        operateRefusesAnOperation(OPS_TOO_LARGE, "too large");
        operateTakesTheFirstAndTheLastTarget();
        operateRefusesATarget(TOO_SMALL, "too small");
        operateRefusesATarget(TOO_LARGE, "too large");
        digitTakesZeroAndNine();
        digitWraps();
        digitTakesTheFirstAndTheLastRegister();
        digitRefusesARegister(TOO_SMALL, "too small");
        digitRefusesARegister(TOO_LARGE, "too large");
        digitRefusesADigit(DIGITS_TOO_SMALL, "too small");
        digitRefusesADigit(DIGITS_TOO_LARGE, "too large");
        swapTakesTheFirstAndTheLastRegister();
        swapOfARegisterWithItself();
        swapRefusesTheFirst(TOO_SMALL, "too small");
        swapRefusesTheFirst(TOO_LARGE, "too large");
        swapRefusesTheSecond(TOO_SMALL, "too small");
        swapRefusesTheSecond(TOO_LARGE, "too large");
        swapRefusesBoth();
        goesOnAfterRefusedCalls();
        Check.finish();
    }

    private static void newRegistersAreZero() {
        Check.sentence("Promise 1: All registers 0");
        Check.dueState("new", new WideOnNarrow(), new long[Check.REGISTERS]);
    }

    private static void newObjectAnswersAsZero() {
        Check.sentence("Promise 1: All registers 0, as the other questions show");
        WideOnNarrow object = new WideOnNarrow();
        for (int r = 0; r <= 7; r++) {
            Check.due("digits(" + r + ")", object.digits(r), 1L);
            Check.due("digitAt(" + r + ", 0)", object.digitAt(r, 0), 0L);
            Check.due("root(" + r + ")", object.root(r), 0L);
            Check.due("less(" + r + ", 7 - " + r + ")", object.less(r, 7 - r), false);
            Check.due("below(" + r + ", 7 - " + r + ")", object.below(r, 7 - r), false);
        }
    }

    private static void setTakesTheFirstAndTheLastRegister() {
        Check.sentence("Promise 2: set: Else answers 0");
        for (int r : new int[] {0, 7}) {
            long[] state = Check.distinctState();
            WideOnNarrow object = Check.objectWith(state);
            state[r] = -99L;
            String call = "set(" + r + ", -99)";
            Check.due(call, object.set(r, -99L), 0L);
            Check.dueState(call, object, state);
        }
    }

    private static void setRefusesARegister(int[] wrong, String how) {
        Check.sentence("Promise 2: set: r not in 0 to 7: BAD_REGISTER, nothing changes: " + how);
        for (int r : wrong) {
            for (long value : new long[] {0L, -99L}) {
                WideOnNarrow object = Check.objectWith(Check.distinctState());
                String call = "set(" + r + ", " + value + ")";
                Check.due(call, object.set(r, value), -1L);
                Check.dueState(call, object, Check.distinctState());
            }
        }
    }

    private static void dueDifference(int xy, int x, int y) {
        long[] state = Check.distinctState();
        WideOnNarrow object = Check.objectWith(state);
        String call = "operate(1, 5, " + xy + ")";
        Check.due(call, object.operate(1, 5, xy), 0L);
        state[5] = state[x] - state[y];
        Check.dueState(call, object, state);
    }

    private static void xIsTheLowestThreeBits() {
        Check.sentence("Promise 3: x is xy & 7");
        for (int x = 0; x <= 7; x++) {
            dueDifference(x, x, 0);
            dueDifference(x + 64, x, 0);
            dueDifference(x - 64, x, 0);
            dueDifference(x + Integer.MIN_VALUE, x, 0);
        }
        dueDifference(-1, 7, 7);
        dueDifference(Integer.MAX_VALUE, 7, 7);
    }

    private static void yIsTheNextThreeBits() {
        Check.sentence("Promise 3: y is (xy >> 3) & 7");
        for (int y = 0; y <= 7; y++) {
            dueDifference(8 * y, 0, y);
            dueDifference(8 * y + 64, 0, y);
            dueDifference(8 * y - 64, 0, y);
            dueDifference(8 * y + Integer.MIN_VALUE, 0, y);
        }
        dueDifference(-2, 6, 7);
        dueDifference(-8, 0, 7);
    }

    private static void operateTakesTheFirstAndTheLastOperation() {
        Check.sentence("Promise 3: operate: Else the target register becomes the result; answers 0");
        long[] state = Check.distinctState();
        WideOnNarrow object = Check.objectWith(state);
        Check.due("operate(0, 6, 8)", object.operate(0, 6, 8), 0L);
        state[6] = -2L;
        Check.dueState("operate(0, 6, 8)", object, state);
        Check.due("operate(15, 2, 1)", object.operate(15, 2, 1), 0L);
        state[2] = 4L;
        Check.dueState("operate(15, 2, 1)", object, state);
    }

    private static void dueRefused(int op, int target, int answer) {
        for (int xy : new int[] {0, 10, 63, -1, Integer.MIN_VALUE, Integer.MAX_VALUE}) {
            WideOnNarrow object = Check.objectWith(Check.distinctState());
            String call = "operate(" + op + ", " + target + ", " + xy + ")";
            Check.due(call, object.operate(op, target, xy), answer);
            Check.dueState(call, object, Check.distinctState());
        }
    }

    private static void operateRefusesAnOperation(int[] wrong, String how) {
        Check.sentence("Promise 3: op not in 0 to 15: BAD_OP; nothing changes then: " + how);
        for (int op : wrong) {
            for (int target = 0; target <= 7; target++) {
                dueRefused(op, target, -2);
            }
        }
    }

    private static void operateTakesTheFirstAndTheLastTarget() {
        Check.sentence("Promise 3: target in 0 to 7");
        for (int target : new int[] {0, 7}) {
            long[] state = Check.distinctState();
            WideOnNarrow object = Check.objectWith(state);
            String call = "operate(0, " + target + ", 10)";
            Check.due(call, object.operate(0, target, 10), 0L);
            state[target] = 1234567890116L;
            Check.dueState(call, object, state);
        }
    }

    private static void operateRefusesATarget(int[] wrong, String how) {
        Check.sentence("Promise 3: target not in 0 to 7: BAD_REGISTER; nothing changes then: " + how);
        for (int target : wrong) {
            for (int op = 0; op <= 15; op++) {
                dueRefused(op, target, -1);
            }
        }
    }

    private static void dueDigit(long value, int digit, long want) {
        WideOnNarrow object = new WideOnNarrow();
        object.set(3, value);
        String call = "digit(3, " + digit + ") on " + value;
        Check.due(call, object.digit(3, digit), 0L);
        Check.dueState(call, object, new long[] {0L, 0L, 0L, want, 0L, 0L, 0L, 0L});
    }

    private static void digitTakesZeroAndNine() {
        Check.sentence("Promise 4: Register r becomes its value times ten plus digit (0 to 9)");
        dueDigit(0L, 0, 0L);
        dueDigit(0L, 9, 9L);
        dueDigit(12L, 0, 120L);
        dueDigit(12L, 9, 129L);
        dueDigit(-12L, 0, -120L);
        dueDigit(-12L, 9, -111L);
        dueDigit(429496729L, 6, 4294967296L);
        dueDigit(922337203685477580L, 7, Long.MAX_VALUE);
    }

    private static void digitWraps() {
        Check.sentence("Promise 4: its value times ten plus digit, wrapping");
        dueDigit(922337203685477580L, 8, Long.MIN_VALUE);
        dueDigit(1844674407370955161L, 5, -1L);
        dueDigit(1844674407370955161L, 6, 0L);
        dueDigit(1844674407370955161L, 9, 3L);
        dueDigit(Long.MAX_VALUE, 0, -10L);
        dueDigit(Long.MAX_VALUE, 9, -1L);
        dueDigit(Long.MIN_VALUE, 0, 0L);
        dueDigit(Long.MIN_VALUE, 9, 9L);
        dueDigit(-1L, 9, -1L);
    }

    private static void digitTakesTheFirstAndTheLastRegister() {
        Check.sentence("Promise 4: digit: Else answers 0");
        for (int r : new int[] {0, 7}) {
            long[] state = Check.distinctState();
            state[r] = 31L;
            WideOnNarrow object = Check.objectWith(state);
            state[r] = 314L;
            String call = "digit(" + r + ", 4)";
            Check.due(call, object.digit(r, 4), 0L);
            Check.dueState(call, object, state);
        }
    }

    private static void dueDigitRefused(int r, int digit, int answer) {
        WideOnNarrow object = Check.objectWith(Check.distinctState());
        String call = "digit(" + r + ", " + digit + ")";
        Check.due(call, object.digit(r, digit), answer);
        Check.dueState(call, object, Check.distinctState());
    }

    private static void digitRefusesARegister(int[] wrong, String how) {
        Check.sentence("Promise 4: r not in 0 to 7: BAD_REGISTER; nothing changes then: " + how);
        for (int r : wrong) {
            for (int digit = 0; digit <= 9; digit++) {
                dueDigitRefused(r, digit, -1);
            }
        }
    }

    private static void digitRefusesADigit(int[] wrong, String how) {
        Check.sentence("Promise 4: digit not in 0 to 9: BAD_OP; nothing changes then: " + how);
        for (int digit : wrong) {
            for (int r = 0; r <= 7; r++) {
                dueDigitRefused(r, digit, -2);
            }
        }
    }

    private static void swapTakesTheFirstAndTheLastRegister() {
        Check.sentence("Promise 5: Exchanges two registers. Else answers 0");
        dueExchanged(0, 7);
        dueExchanged(7, 0);
        dueExchanged(3, 4);
    }

    private static void dueExchanged(int a, int b) {
        long[] before = Check.distinctState();
        long[] after = Check.distinctState();
        after[a] = before[b];
        after[b] = before[a];
        WideOnNarrow object = Check.objectWith(before);
        String call = "swap(" + a + ", " + b + ")";
        Check.due(call, object.swap(a, b), 0L);
        Check.dueState(call, object, after);
    }

    private static void swapOfARegisterWithItself() {
        Check.sentence("Promise 5: Exchanges two registers, which may be the same");
        for (int r = 0; r <= 7; r++) {
            dueExchanged(r, r);
        }
    }

    private static void dueSwapRefused(int a, int b) {
        WideOnNarrow object = Check.objectWith(Check.distinctState());
        String call = "swap(" + a + ", " + b + ")";
        Check.due(call, object.swap(a, b), -1L);
        Check.dueState(call, object, Check.distinctState());
    }

    private static void swapRefusesTheFirst(int[] wrong, String how) {
        Check.sentence("Promise 5: swap: BAD_REGISTER, nothing changes: a " + how);
        for (int a : wrong) {
            for (int b = 0; b <= 7; b++) {
                dueSwapRefused(a, b);
            }
        }
    }

    private static void swapRefusesTheSecond(int[] wrong, String how) {
        Check.sentence("Promise 5: swap: BAD_REGISTER, nothing changes: b " + how);
        for (int b : wrong) {
            for (int a = 0; a <= 7; a++) {
                dueSwapRefused(a, b);
            }
        }
    }

    private static void swapRefusesBoth() {
        Check.sentence("Promise 5: swap: BAD_REGISTER, nothing changes: a and b");
        for (int small : TOO_SMALL) {
            for (int large : TOO_LARGE) {
                dueSwapRefused(small, large);
                dueSwapRefused(large, small);
                dueSwapRefused(large, large);
            }
            dueSwapRefused(small, small);
        }
    }

    /** A refused call may not leave a mark that shows only in the next one. */
    private static void goesOnAfterRefusedCalls() {
        Check.sentence("Promises 2 to 5: nothing changes, as the calls after the refused ones show");
        long[] state = Check.distinctState();
        WideOnNarrow object = Check.objectWith(state);
        Check.due("set(8, 1)", object.set(8, 1L), -1L);
        Check.due("operate(16, 0, 0)", object.operate(16, 0, 0), -2L);
        Check.due("operate(0, 8, 0)", object.operate(0, 8, 0), -1L);
        Check.due("digit(0, 10)", object.digit(0, 10), -2L);
        Check.due("digit(8, 1)", object.digit(8, 1), -1L);
        Check.due("swap(0, 8)", object.swap(0, 8), -1L);
        Check.due("operate(0, 0, 0)", object.operate(0, 0, 0), 0L);
        Check.due("digit(0, 3)", object.digit(0, 3), 0L);
        Check.due("swap(0, 6)", object.swap(0, 6), 0L);
        state[0] = 65536L;
        state[6] = 103L;
        Check.dueState("the calls after them", object, state);
    }
}
