/** The example of README.md, call by call: it may not tell a user what the class does not do. */
public final class ReadmeExampleTest {
    public static void main(String[] args) {
        WideOnNarrow machine = new WideOnNarrow();
        Check.dueState("new", machine, new long[Check.REGISTERS]);
        Check.due("set(1, -1)", machine.set(1, -1L), 0L);
        Check.due("digit(2, 1)", machine.digit(2, 1), 0L);
        Check.due("get(2)", machine.get(2), 1L);
        Check.due("digit(2, 0)", machine.digit(2, 0), 0L);
        Check.due("get(2)", machine.get(2), 10L);
        Check.due("operate(5, 3, 1 | 2 << 3)", machine.operate(5, 3, 1 | 2 << 3), 0L);
        Check.due("get(3)", machine.get(3), 1844674407370955161L);
        Check.due("less(1, 2)", machine.less(1, 2), true);
        Check.due("below(1, 2)", machine.below(1, 2), false);
        Check.due("digits(1)", machine.digits(1), 20L);
        Check.due("digitAt(1, 19)", machine.digitAt(1, 19), 1L);
        Check.due("root(1)", machine.root(1), 4294967295L);
        Check.due("swap(1, 2)", machine.swap(1, 2), 0L);
        long[] state = {0L, 10L, -1L, 1844674407370955161L, 0L, 0L, 0L, 0L};
        Check.dueState("swap(1, 2)", machine, state);
        Check.due("set(8, 5)", machine.set(8, 5L), -1L);
        Check.due("operate(16, 8, 0)", machine.operate(16, 8, 0), -2L);
        Check.dueState("the refused calls", machine, state);
        Check.finish();
    }
}
