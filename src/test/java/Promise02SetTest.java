public final class Promise02SetTest {
    public static void main(String[] args) {
        for (long value : Check.values()) {
            setsOneRegister(value);
        }
        for (int r : Check.BAD_REGISTERS) {
            WideOnNarrow object = Check.objectWith(Check.distinctState());
            String call = "set(" + r + ", 77)";
            Check.due(call, object.set(r, 77L), WideOnNarrow.BAD_REGISTER);
            Check.dueState(call, object, Check.distinctState());
        }
        Check.finish();
    }

    private static void setsOneRegister(long value) {
        for (int r = 0; r < Check.REGISTERS; r++) {
            WideOnNarrow object = Check.objectWith(Check.distinctState());
            long[] state = Check.distinctState();
            state[r] = value;
            String call = "set(" + r + ", " + value + ")";
            Check.due(call, object.set(r, value), 0L);
            Check.dueState(call, object, state);
        }
    }
}
