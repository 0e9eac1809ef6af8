public final class Promise11RootTest {
    private static final long GREATEST_ROOT = 0xFFFFFFFFL;

    public static void main(String[] args) {
        for (long value : Check.values()) {
            dueRoot(value, Check.unsigned(value).sqrt().longValue());
            aroundSquare(value & GREATEST_ROOT);
            aroundSquare(value >>> 32);
        }
        for (long k = 0; k <= 1000; k++) {
            aroundSquare(k);
            aroundSquare(GREATEST_ROOT - k);
        }
        // The first root whose square is 2^63 or more, and the one before it.
        aroundSquare(3037000499L);
        aroundSquare(3037000500L);
        dueRoot(0L, 0L);
        dueRoot(-1L, GREATEST_ROOT);
        dueRoot(Long.MIN_VALUE, 3037000499L);
        dueRoot(Long.MAX_VALUE, 3037000499L);
        everyRegister();
        wrongRegisters();
        Check.finish();
    }

    private static void aroundSquare(long k) {
        dueRoot(k * k, k);
        if (k > 0) {
            dueRoot(k * k - 1L, k - 1L);
            dueRoot(k * k + 2L * k, k);
        }
    }

    private static void dueRoot(long value, long want) {
        WideOnNarrow object = new WideOnNarrow();
        object.set(3, value);
        Check.due("root(3) of " + value, object.root(3), want);
        Check.due("after root(3): get(3)", object.get(3), value);
    }

    private static void everyRegister() {
        WideOnNarrow object = new WideOnNarrow();
        for (int r = 0; r < Check.REGISTERS; r++) {
            object.set(r, (r + 2L) * (r + 2L));
        }
        for (int r = 0; r < Check.REGISTERS; r++) {
            Check.due("root(" + r + ")", object.root(r), r + 2L);
        }
    }

    private static void wrongRegisters() {
        WideOnNarrow object = Check.objectWith(Check.distinctState());
        for (int r : Check.BAD_REGISTERS) {
            Check.due("root(" + r + ")", object.root(r), 0L);
        }
        Check.dueState("root with a wrong register", object, Check.distinctState());
    }
}
