/** Eight registers of 64 bits and the arithmetic on them; ../shared/DOC.md says what each call promises. */
public final class WideOnNarrow {
    public static final int BAD_REGISTER = -1;
    public static final int BAD_OP = -2;

    private static final int DONE = 0;
    private static final int REGISTERS = 8;
    private static final int REGISTER_MASK = REGISTERS - 1;
    private static final int REGISTER_BITS = 3;

    private static final int ADD = 0;
    private static final int SUB = 1;
    private static final int MUL = 2;
    private static final int DIVS = 3;
    private static final int REMS = 4;
    private static final int DIVU = 5;
    private static final int SHL = 6;
    private static final int SHR = 7;
    private static final int SAR = 8;
    private static final int AND = 9;
    private static final int OR = 10;
    private static final int XOR = 11;
    private static final int MULH = 12;
    private static final int ROTL = 13;
    private static final int CLZ = 14;
    private static final int REMU = 15;

    private static final int WIDTH = 64;
    private static final int SHIFT_MASK = WIDTH - 1;
    private static final int HALF_WIDTH = 32;
    private static final long LOW_HALF = 0xFFFFFFFFL;
    private static final long SIGN_BIT = 1L << (WIDTH - 1);
    private static final long ALL_ONES = -1L;

    private static final int BASE = 10;
    /** 2^64 - 1 has twenty digits in base ten. */
    private static final int MOST_DIGITS = 20;

    private final long[] registers = new long[REGISTERS];

    public WideOnNarrow() {
    }

    public int set(int r, long value) {
        if (!isRegister(r)) {
            return BAD_REGISTER;
        }
        registers[r] = value;
        return DONE;
    }

    public int operate(int op, int target, int xy) {
        if (op < ADD || op > REMU) {
            return BAD_OP;
        }
        if (!isRegister(target)) {
            return BAD_REGISTER;
        }
        long x = registers[xy & REGISTER_MASK];
        long y = registers[(xy >> REGISTER_BITS) & REGISTER_MASK];
        registers[target] = resultOf(op, x, y);
        return DONE;
    }

    public int digit(int r, int digit) {
        if (!isRegister(r)) {
            return BAD_REGISTER;
        }
        if (digit < 0 || digit >= BASE) {
            return BAD_OP;
        }
        registers[r] = registers[r] * BASE + digit;
        return DONE;
    }

    public int swap(int a, int b) {
        if (!isRegister(a) || !isRegister(b)) {
            return BAD_REGISTER;
        }
        long kept = registers[a];
        registers[a] = registers[b];
        registers[b] = kept;
        return DONE;
    }

    public long get(int r) {
        return isRegister(r) ? registers[r] : 0L;
    }

    public boolean less(int a, int b) {
        return isRegister(a) && isRegister(b) && registers[a] < registers[b];
    }

    public boolean below(int a, int b) {
        return isRegister(a) && isRegister(b) && isBelowUnsigned(registers[a], registers[b]);
    }

    public int digits(int r) {
        if (!isRegister(r)) {
            return BAD_REGISTER;
        }
        long rest = quotientUnsigned(registers[r], BASE);
        int count = 1;
        while (count < MOST_DIGITS && rest != 0L) {
            rest = quotientUnsigned(rest, BASE);
            count++;
        }
        return count;
    }

    public int digitAt(int r, int i) {
        if (!isRegister(r)) {
            return BAD_REGISTER;
        }
        if (i < 0 || i >= MOST_DIGITS) {
            return 0;
        }
        long rest = registers[r];
        for (int dropped = 0; dropped < i; dropped++) {
            rest = quotientUnsigned(rest, BASE);
        }
        return (int) restUnsigned(rest, BASE);
    }

    public long root(int r) {
        if (!isRegister(r)) {
            return 0L;
        }
        long value = registers[r];
        long found = 0L;
        for (int bit = HALF_WIDTH - 1; bit >= 0; bit--) {
            // A trial stays below 2^32, so that its square fits into 64 unsigned bits.
            long trial = found | (1L << bit);
            if (!isBelowUnsigned(value, trial * trial)) {
                found = trial;
            }
        }
        return found;
    }

    private static boolean isRegister(int r) {
        return r >= 0 && r < REGISTERS;
    }

    private static long resultOf(int op, long x, long y) {
        int shift = (int) (y & SHIFT_MASK);
        switch (op) {
            case ADD:
                return x + y;
            case SUB:
                return x - y;
            case MUL:
                return x * y;
            case DIVS:
                return quotientSigned(x, y);
            case REMS:
                return restSigned(x, y);
            case DIVU:
                return quotientUnsigned(x, y);
            case SHL:
                return x << shift;
            case SHR:
                return x >>> shift;
            case SAR:
                return x >> shift;
            case AND:
                return x & y;
            case OR:
                return x | y;
            case XOR:
                return x ^ y;
            case MULH:
                return upperProduct(x, y);
            case ROTL:
                return turnedLeft(x, shift);
            case CLZ:
                return leadingZeros(x);
            case REMU:
            default:
                return restUnsigned(x, y);
        }
    }

    /** Java's own division gives -2^63 for -2^63 / -1, as the document asks. */
    private static long quotientSigned(long x, long y) {
        if (y == 0L) {
            return ALL_ONES;
        }
        return x / y;
    }

    private static long restSigned(long x, long y) {
        if (y == 0L) {
            return x;
        }
        return x % y;
    }

    private static long quotientUnsigned(long x, long y) {
        if (y == 0L) {
            return ALL_ONES;
        }
        if (y < 0L) {
            // From 2^63 on, a divisor fits at most once.
            return isBelowUnsigned(x, y) ? 0L : 1L;
        }
        // Halving x makes Java's signed division right; doubling its answer leaves it at most one too small.
        long quotient = ((x >>> 1) / y) << 1;
        long rest = x - quotient * y;
        return isBelowUnsigned(rest, y) ? quotient : quotient + 1L;
    }

    /** A divisor of 0 needs no case of its own: the product is 0 then and the rest is x. */
    private static long restUnsigned(long x, long y) {
        return x - quotientUnsigned(x, y) * y;
    }

    /** Turning the sign bits over maps the unsigned order to the signed one. */
    private static boolean isBelowUnsigned(long x, long y) {
        return (x ^ SIGN_BIT) < (y ^ SIGN_BIT);
    }

    private static long upperProduct(long x, long y) {
        long xLow = x & LOW_HALF;
        long xHigh = x >>> HALF_WIDTH;
        long yLow = y & LOW_HALF;
        long yHigh = y >>> HALF_WIDTH;
        long lowHigh = xLow * yHigh;
        long highLow = xHigh * yLow;
        // Only the low halves are summed here, so that the sum can't wrap and its carry is kept.
        long middle = ((xLow * yLow) >>> HALF_WIDTH) + (lowHigh & LOW_HALF) + (highLow & LOW_HALF);
        return xHigh * yHigh + (lowHigh >>> HALF_WIDTH) + (highLow >>> HALF_WIDTH) + (middle >>> HALF_WIDTH);
    }

    private static long turnedLeft(long x, int shift) {
        // The mask is for a shift of 0, where the other count would be the whole width.
        return (x << shift) | (x >>> ((WIDTH - shift) & SHIFT_MASK));
    }

    private static long leadingZeros(long x) {
        for (int zeros = 0; zeros < WIDTH; zeros++) {
            if ((x << zeros) < 0L) {
                return zeros;
            }
        }
        return WIDTH;
    }
}
