/** A test for each sentence of promise 12, for the constants, and for the number of calls an object is used for. */
public final class BoundaryOrderTest {
    private static final int[] BAD_OPS = {-1, 16, 17, -16, 256, Integer.MIN_VALUE, Integer.MAX_VALUE};
    private static final int[] BAD_DIGITS = {-1, 10, 11, -10, 256, Integer.MIN_VALUE, Integer.MAX_VALUE};
    private static final int[] BAD_PLACES = {-1, 20, 21, -20, 1000, Integer.MIN_VALUE, Integer.MAX_VALUE};
    private static final int MOST_CALLS = 512;

    public static void main(String[] args) {
        constants();
        operateTestsTheOperationFirst();
        digitTestsTheRegisterFirst();
        digitAtTestsTheRegisterFirst();
        rootAnswersZero();
        changesUpToTheLastCall();
        refusalsUpToTheLastCall();
        questionsUpToTheLastCall();
        Check.finish();
    }

    private static void constants() {
        Check.sentence("BAD_REGISTER = -1, BAD_OP = -2");
        Check.due("BAD_REGISTER", WideOnNarrow.BAD_REGISTER, -1L);
        Check.due("BAD_OP", WideOnNarrow.BAD_OP, -2L);
    }

    private static void operateTestsTheOperationFirst() {
        Check.sentence("Promise 12: operate: BAD_OP is tested before BAD_REGISTER");
        for (int target : Check.BAD_REGISTERS) {
            for (int op : BAD_OPS) {
                WideOnNarrow object = Check.objectWith(Check.distinctState());
                String call = "operate(" + op + ", " + target + ", 17)";
                Check.due(call, object.operate(op, target, 17), -2L);
                Check.dueState(call, object, Check.distinctState());
            }
        }
    }

    private static void digitTestsTheRegisterFirst() {
        Check.sentence("Promise 12: digit: BAD_REGISTER before BAD_OP");
        for (int r : Check.BAD_REGISTERS) {
            for (int digit : BAD_DIGITS) {
                WideOnNarrow object = Check.objectWith(Check.distinctState());
                String call = "digit(" + r + ", " + digit + ")";
                Check.due(call, object.digit(r, digit), -1L);
                Check.dueState(call, object, Check.distinctState());
            }
        }
    }

    private static void digitAtTestsTheRegisterFirst() {
        Check.sentence("Promise 12: digitAt: BAD_REGISTER is tested first, whatever i is");
        for (int r : Check.BAD_REGISTERS) {
            for (int i : BAD_PLACES) {
                WideOnNarrow object = Check.objectWith(Check.distinctState());
                String call = "digitAt(" + r + ", " + i + ")";
                Check.due(call, object.digitAt(r, i), -1L);
                Check.dueState(call, object, Check.distinctState());
            }
        }
    }

    private static void rootAnswersZero() {
        Check.sentence("Promise 12: root answers 0, not BAD_REGISTER, for a register not in 0 to 7");
        for (int r : Check.BAD_REGISTERS) {
            WideOnNarrow object = Check.objectWith(Check.distinctState());
            String call = "root(" + r + ")";
            Check.due(call, object.root(r), 0L);
            Check.dueState(call, object, Check.distinctState());
        }
    }

    private static void changesUpToTheLastCall() {
        Check.sentence("An object is used for at most 512 calls: changes");
        WideOnNarrow object = new WideOnNarrow();
        Check.due("call 1: set(7, 1)", object.set(7, 1L), 0L);
        for (int call = 2; call < MOST_CALLS; call++) {
            Check.due("call " + call + ": operate(0, 0, 56)", object.operate(0, 0, 56), 0L);
        }
        Check.due("call 512: get(0)", object.get(0), 510L);
    }

    private static void refusalsUpToTheLastCall() {
        Check.sentence("An object is used for at most 512 calls: refused ones");
        WideOnNarrow object = Check.objectWith(Check.distinctState());
        int made = Check.REGISTERS;
        while (made + 6 + Check.REGISTERS <= MOST_CALLS) {
            Check.due("set(8, 5)", object.set(8, 5L), -1L);
            Check.due("operate(16, 8, 0)", object.operate(16, 8, 0), -2L);
            Check.due("operate(0, -1, 0)", object.operate(0, -1, 0), -1L);
            Check.due("digit(8, 10)", object.digit(8, 10), -1L);
            Check.due("digit(0, 10)", object.digit(0, 10), -2L);
            Check.due("swap(0, 8)", object.swap(0, 8), -1L);
            made += 6;
        }
        Check.dueState("refused calls", object, Check.distinctState());
    }

    private static void questionsUpToTheLastCall() {
        Check.sentence("An object is used for at most 512 calls: questions");
        WideOnNarrow object = Check.objectWith(Check.distinctState());
        int made = Check.REGISTERS;
        while (made + 6 + Check.REGISTERS <= MOST_CALLS) {
            Check.due("get(5)", object.get(5), -1L);
            Check.due("less(5, 0)", object.less(5, 0), true);
            Check.due("below(5, 0)", object.below(5, 0), false);
            Check.due("digits(5)", object.digits(5), 20L);
            Check.due("digitAt(5, 19)", object.digitAt(5, 19), 1L);
            Check.due("root(5)", object.root(5), 4294967295L);
            made += 6;
        }
        Check.dueState("questions", object, Check.distinctState());
    }
}
