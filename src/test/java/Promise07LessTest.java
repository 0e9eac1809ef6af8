public final class Promise07LessTest {
    public static void main(String[] args) {
        for (long a : Check.values()) {
            for (long b : Check.values()) {
                dueLess(a, b, a < b);
            }
        }
        dueLess(-1L, 0L, true);
        dueLess(0L, -1L, false);
        dueLess(Long.MIN_VALUE, Long.MAX_VALUE, true);
        dueLess(Long.MAX_VALUE, Long.MIN_VALUE, false);
        everyPairOfRegisters();
        wrongRegisters();
        Check.finish();
    }

    private static void dueLess(long a, long b, boolean want) {
        WideOnNarrow object = new WideOnNarrow();
        object.set(2, a);
        object.set(5, b);
        Check.due("less(2, 5) with " + a + " and " + b, object.less(2, 5), want);
    }

    private static void everyPairOfRegisters() {
        long[] state = Check.distinctState();
        WideOnNarrow object = Check.objectWith(state);
        for (int a = 0; a < Check.REGISTERS; a++) {
            for (int b = 0; b < Check.REGISTERS; b++) {
                Check.due("less(" + a + ", " + b + ")", object.less(a, b), state[a] < state[b]);
            }
        }
        Check.dueState("less", object, state);
    }

    private static void wrongRegisters() {
        for (int bad : Check.BAD_REGISTERS) {
            WideOnNarrow object = Check.objectWith(Check.distinctState());
            for (int good = 0; good < Check.REGISTERS; good++) {
                Check.due("less(" + bad + ", " + good + ")", object.less(bad, good), false);
                Check.due("less(" + good + ", " + bad + ")", object.less(good, bad), false);
            }
            Check.due("less(-5, " + bad + ")", object.less(-5, bad), false);
            Check.due("less(" + bad + ", 20)", object.less(bad, 20), false);
            Check.dueState("less with a wrong register", object, Check.distinctState());
        }
    }
}
