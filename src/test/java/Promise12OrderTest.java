/** Calls with two faults at once, and that an object answers alike up to its 512th call. */
public final class Promise12OrderTest {
    private static final int[] BAD_OPS = {-1, 16, 100, Integer.MIN_VALUE, Integer.MAX_VALUE};
    private static final int[] BAD_DIGITS = {-1, 10, 100, Integer.MIN_VALUE, Integer.MAX_VALUE};
    private static final int MOST_CALLS = 512;

    public static void main(String[] args) {
        Check.due("BAD_REGISTER", WideOnNarrow.BAD_REGISTER, -1L);
        Check.due("BAD_OP", WideOnNarrow.BAD_OP, -2L);
        for (int r : Check.BAD_REGISTERS) {
            operateTellsTheOperationFirst(r);
            digitTellsTheRegisterFirst(r);
            digitAtTellsTheRegisterFirst(r);
            Check.due("root(" + r + ")", new WideOnNarrow().root(r), 0L);
        }
        fiveHundredAndTwelveCalls();
        Check.finish();
    }

    private static void operateTellsTheOperationFirst(int target) {
        WideOnNarrow object = Check.objectWith(Check.distinctState());
        for (int op : BAD_OPS) {
            Check.due("operate(" + op + ", " + target + ", 0)", object.operate(op, target, 0), WideOnNarrow.BAD_OP);
        }
        Check.dueState("operate with two faults", object, Check.distinctState());
    }

    private static void digitTellsTheRegisterFirst(int r) {
        WideOnNarrow object = Check.objectWith(Check.distinctState());
        for (int digit : BAD_DIGITS) {
            Check.due("digit(" + r + ", " + digit + ")", object.digit(r, digit), WideOnNarrow.BAD_REGISTER);
        }
        Check.dueState("digit with two faults", object, Check.distinctState());
    }

    private static void digitAtTellsTheRegisterFirst(int r) {
        WideOnNarrow object = Check.objectWith(Check.distinctState());
        for (int i : new int[] {-1, 20, 1000, Integer.MIN_VALUE, Integer.MAX_VALUE}) {
            Check.due("digitAt(" + r + ", " + i + ")", object.digitAt(r, i), WideOnNarrow.BAD_REGISTER);
        }
        Check.dueState("digitAt with two faults", object, Check.distinctState());
    }

    private static void fiveHundredAndTwelveCalls() {
        WideOnNarrow object = new WideOnNarrow();
        object.set(0, 1L);
        for (int call = 2; call < MOST_CALLS; call++) {
            Check.due("call " + call + ": operate(0, 1, 8)", object.operate(0, 1, 8), 0L);
        }
        Check.due("call 512: get(1)", object.get(1), MOST_CALLS - 2L);
    }
}
