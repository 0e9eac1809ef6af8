public final class Promise08BelowTest {
    public static void main(String[] args) {
        for (long a : Check.values()) {
            for (long b : Check.values()) {
                dueBelow(a, b, Check.unsigned(a).compareTo(Check.unsigned(b)) < 0);
            }
        }
        dueBelow(-1L, 0L, false);
        dueBelow(0L, -1L, true);
        dueBelow(Long.MAX_VALUE, Long.MIN_VALUE, true);
        dueBelow(Long.MIN_VALUE, Long.MAX_VALUE, false);
        everyPairOfRegisters();
        wrongRegisters();
        Check.finish();
    }

    private static void dueBelow(long a, long b, boolean want) {
        WideOnNarrow object = new WideOnNarrow();
        object.set(2, a);
        object.set(5, b);
        Check.due("below(2, 5) with " + a + " and " + b, object.below(2, 5), want);
    }

    private static void everyPairOfRegisters() {
        long[] state = Check.distinctState();
        WideOnNarrow object = Check.objectWith(state);
        for (int a = 0; a < Check.REGISTERS; a++) {
            for (int b = 0; b < Check.REGISTERS; b++) {
                boolean want = Long.compareUnsigned(state[a], state[b]) < 0;
                Check.due("below(" + a + ", " + b + ")", object.below(a, b), want);
            }
        }
        Check.dueState("below", object, state);
    }

    private static void wrongRegisters() {
        for (int bad : Check.BAD_REGISTERS) {
            WideOnNarrow object = Check.objectWith(Check.distinctState());
            for (int good = 0; good < Check.REGISTERS; good++) {
                Check.due("below(" + bad + ", " + good + ")", object.below(bad, good), false);
                Check.due("below(" + good + ", " + bad + ")", object.below(good, bad), false);
            }
            Check.due("below(-5, " + bad + ")", object.below(-5, bad), false);
            Check.due("below(" + bad + ", 20)", object.below(bad, 20), false);
            Check.dueState("below with a wrong register", object, Check.distinctState());
        }
    }
}
