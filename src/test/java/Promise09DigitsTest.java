import java.math.BigInteger;

public final class Promise09DigitsTest {
    public static void main(String[] args) {
        for (long value : Check.values()) {
            dueDigits(value, Check.unsigned(value).toString().length());
        }
        dueDigits(0L, 1);
        dueDigits(-1L, 20);
        dueDigits(Long.MAX_VALUE, 19);
        dueDigits(Long.MIN_VALUE, 19);
        aroundPowersOfTen();
        wrongRegisters();
        Check.finish();
    }

    private static void dueDigits(long value, int want) {
        for (int r = 0; r < Check.REGISTERS; r++) {
            WideOnNarrow object = new WideOnNarrow();
            object.set(r, value);
            Check.due("digits(" + r + ") of " + value, object.digits(r), want);
            Check.due("after digits(" + r + "): get(" + r + ")", object.get(r), value);
        }
    }

    private static void aroundPowersOfTen() {
        BigInteger power = BigInteger.TEN;
        for (int zeros = 1; zeros <= 19; zeros++) {
            dueDigits(power.longValue() - 1L, zeros);
            dueDigits(power.longValue(), zeros + 1);
            dueDigits(power.longValue() + 1L, zeros + 1);
            power = power.multiply(BigInteger.TEN);
        }
    }

    private static void wrongRegisters() {
        WideOnNarrow object = Check.objectWith(Check.distinctState());
        for (int r : Check.BAD_REGISTERS) {
            Check.due("digits(" + r + ")", object.digits(r), WideOnNarrow.BAD_REGISTER);
        }
        Check.dueState("digits with a wrong register", object, Check.distinctState());
    }
}
