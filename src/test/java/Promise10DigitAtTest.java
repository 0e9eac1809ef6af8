public final class Promise10DigitAtTest {
    private static final int[] NO_DIGITS = {
        -1, -2, -20, 20, 21, 31, 32, 64, 1000, Integer.MIN_VALUE, Integer.MIN_VALUE + 1, Integer.MAX_VALUE
    };

    public static void main(String[] args) {
        for (long value : Check.values()) {
            everyDigit(value);
        }
        dueDigit(-1L, 19, 1);
        dueDigit(-1L, 18, 8);
        dueDigit(-1L, 0, 5);
        dueDigit(Long.MIN_VALUE, 0, 8);
        dueDigit(Long.MIN_VALUE, 18, 9);
        dueDigit(0L, 0, 0);
        dueDigit(7L, 0, 7);
        dueDigit(7L, 1, 0);
        everyRegister();
        wrongRegisters();
        Check.finish();
    }

    private static void everyDigit(long value) {
        String text = Check.unsigned(value).toString();
        for (int i = 0; i < 30; i++) {
            int want = i < text.length() ? text.charAt(text.length() - 1 - i) - '0' : 0;
            dueDigit(value, i, want);
        }
        for (int i : NO_DIGITS) {
            dueDigit(value, i, 0);
        }
    }

    private static void dueDigit(long value, int i, int want) {
        WideOnNarrow object = new WideOnNarrow();
        object.set(6, value);
        Check.due("digitAt(6, " + i + ") of " + value, object.digitAt(6, i), want);
        Check.due("after digitAt(6, " + i + "): get(6)", object.get(6), value);
    }

    private static void everyRegister() {
        WideOnNarrow object = new WideOnNarrow();
        for (int r = 0; r < Check.REGISTERS; r++) {
            object.set(r, 10L * (r + 1) + 9);
        }
        for (int r = 0; r < Check.REGISTERS; r++) {
            Check.due("digitAt(" + r + ", 1)", object.digitAt(r, 1), r + 1);
        }
    }

    private static void wrongRegisters() {
        for (int r : Check.BAD_REGISTERS) {
            WideOnNarrow object = Check.objectWith(Check.distinctState());
            for (int i = 0; i < 20; i++) {
                Check.due("digitAt(" + r + ", " + i + ")", object.digitAt(r, i), WideOnNarrow.BAD_REGISTER);
            }
            Check.dueState("digitAt with a wrong register", object, Check.distinctState());
        }
    }
}
