import java.math.BigInteger;
import java.util.Arrays;

/** The document's words over BigInteger, held by unsigned values: what the class must answer, by other means. */
final class Model {
    private static final int BAD_REGISTER = -1;
    private static final int BAD_OP = -2;

    private final BigInteger[] unsigned = new BigInteger[Check.REGISTERS];

    Model() {
        Arrays.fill(unsigned, BigInteger.ZERO);
    }

    private static boolean in(int number, int first, int last) {
        return number >= first && number <= last;
    }

    private static boolean register(int r) {
        return in(r, 0, 7);
    }

    int set(int r, long value) {
        if (!register(r)) {
            return BAD_REGISTER;
        }
        unsigned[r] = Check.unsigned(value);
        return 0;
    }

    int operate(int op, int target, int xy) {
        if (!in(op, 0, 15)) {
            return BAD_OP;
        }
        if (!register(target)) {
            return BAD_REGISTER;
        }
        long x = unsigned[xy & 7].longValue();
        long y = unsigned[(xy >> 3) & 7].longValue();
        unsigned[target] = Check.unsigned(Promise03OperateTest.expected(op, x, y));
        return 0;
    }

    int digit(int r, int digit) {
        if (!register(r)) {
            return BAD_REGISTER;
        }
        if (!in(digit, 0, 9)) {
            return BAD_OP;
        }
        BigInteger longer = unsigned[r].multiply(BigInteger.TEN).add(BigInteger.valueOf(digit));
        unsigned[r] = longer.mod(Check.TWO_TO_64);
        return 0;
    }

    int swap(int a, int b) {
        if (!register(a) || !register(b)) {
            return BAD_REGISTER;
        }
        BigInteger kept = unsigned[a];
        unsigned[a] = unsigned[b];
        unsigned[b] = kept;
        return 0;
    }

    long get(int r) {
        return register(r) ? unsigned[r].longValue() : 0L;
    }

    boolean less(int a, int b) {
        return register(a) && register(b) && unsigned[a].longValue() < unsigned[b].longValue();
    }

    boolean below(int a, int b) {
        return register(a) && register(b) && unsigned[a].compareTo(unsigned[b]) < 0;
    }

    int digits(int r) {
        return register(r) ? unsigned[r].toString().length() : BAD_REGISTER;
    }

    int digitAt(int r, int i) {
        if (!register(r)) {
            return BAD_REGISTER;
        }
        String text = unsigned[r].toString();
        return in(i, 0, text.length() - 1) ? text.charAt(text.length() - 1 - i) - '0' : 0;
    }

    long root(int r) {
        return register(r) ? unsigned[r].sqrt().longValue() : 0L;
    }
}
