import java.math.BigInteger;

public final class Promise04DigitTest {
    private static final int[] BAD_DIGITS = {-1, 10, 11, -10, 16, 256, Integer.MIN_VALUE, Integer.MAX_VALUE};

    public static void main(String[] args) {
        for (long value : Check.values()) {
            for (int digit = 0; digit <= 9; digit++) {
                appends(value, digit);
            }
        }
        for (int r = 0; r < Check.REGISTERS; r++) {
            changesOneRegister(r);
            for (int digit : BAD_DIGITS) {
                dueNothing(r, digit, WideOnNarrow.BAD_OP);
            }
        }
        for (int r : Check.BAD_REGISTERS) {
            dueNothing(r, 0, WideOnNarrow.BAD_REGISTER);
            dueNothing(r, 9, WideOnNarrow.BAD_REGISTER);
        }
        writesTheGreatestNumberAndWraps();
        Check.finish();
    }

    private static void appends(long value, int digit) {
        WideOnNarrow object = new WideOnNarrow();
        object.set(4, value);
        String call = "digit(4, " + digit + ") on " + value;
        BigInteger want = BigInteger.valueOf(value).multiply(BigInteger.TEN).add(BigInteger.valueOf(digit));
        Check.due(call, object.digit(4, digit), 0L);
        Check.due(call + ": get(4)", object.get(4), want.longValue());
    }

    private static void changesOneRegister(int r) {
        long[] state = Check.distinctState();
        WideOnNarrow object = Check.objectWith(state);
        state[r] = state[r] * 10 + 3;
        String call = "digit(" + r + ", 3)";
        Check.due(call, object.digit(r, 3), 0L);
        Check.dueState(call, object, state);
    }

    private static void dueNothing(int r, int digit, int answer) {
        WideOnNarrow object = Check.objectWith(Check.distinctState());
        String call = "digit(" + r + ", " + digit + ")";
        Check.due(call, object.digit(r, digit), answer);
        Check.dueState(call, object, Check.distinctState());
    }

    private static void writesTheGreatestNumberAndWraps() {
        WideOnNarrow object = new WideOnNarrow();
        for (char c : "18446744073709551615".toCharArray()) {
            object.digit(0, c - '0');
        }
        Check.due("2^64 - 1 written digit by digit: get(0)", object.get(0), -1L);
        object.digit(0, 9);
        Check.due("digit(0, 9) after it: get(0)", object.get(0), -1L);
        object.digit(0, 0);
        Check.due("digit(0, 0) after it: get(0)", object.get(0), -10L);
    }
}
