/** A test for each boundary that the document's "Terms" name; what is due are literals, worked out by hand. */
public final class BoundaryTermsTest {
    private static final int ADD = 0;
    private static final int SUB = 1;
    private static final int MUL = 2;
    private static final int DIVS = 3;
    private static final int REMS = 4;
    private static final int DIVU = 5;
    private static final int SHL = 6;
    private static final int SHR = 7;
    private static final int SAR = 8;
    private static final int AND = 9;
    private static final int OR = 10;
    private static final int XOR = 11;
    private static final int MULH = 12;
    private static final int ROTL = 13;
    private static final int CLZ = 14;
    private static final int REMU = 15;

    private static final long MIN = Long.MIN_VALUE;
    private static final long MAX = Long.MAX_VALUE;
    private static final long TWO_TO_32 = 1L << 32;

    /** Dividends for a divisor of 0: both signs, both ends, and 0 itself. */
    private static final long[] DIVIDENDS = {0L, 1L, -1L, 42L, -42L, MAX, MIN, MIN + 1, TWO_TO_32, -TWO_TO_32};

    /** By operation: 6 op 6. */
    private static final long[] OF_SIX = {12L, 0L, 36L, 1L, 0L, 1L, 384L, 0L, 0L, 6L, 6L, 0L, 0L, 384L, 61L, 0L};
    /** By operation: -17 op 5; unsigned, -17 is 2^64 - 17. */
    private static final long[] OF_SEVENTEEN_AND_FIVE = {
        -12L, -22L, -85L, -3L, -2L, 3689348814741910319L, -544L, 576460752303423487L, -1L, 5L, -17L, -22L, 4L,
        -513L, 0L, 4L
    };

    public static void main(String[] args) {
        eightRegistersOf64Bits();
        addWraps();
        subWraps();
        mulWraps();
        sourcesMayBeTheSame();
        sourcesMayBeTheTarget();
        divsRoundsTowardsZero();
        remsIsWhatDivsLeaves();
        divuRoundsDown();
        remuIsWhatDivuLeaves();
        shlCount();
        shrCountAndZeros();
        sarCountAndSign();
        rotlCount();
        bitByBit();
        mulhIsUnsigned();
        clzOfZero();
        clzOfTheEnds();
        clzDoesNotLookAtY();
        divsByZero();
        remsByZero();
        divuByZero();
        remuByZero();
        divsOfTheLeastByMinusOne();
        remsOfTheLeastByMinusOne();
        unsignedDivisionHasNoSuchCase();
        Check.finish();
    }

    private static void dueResult(int op, long x, long y, long want) {
        long[] state = Check.distinctState();
        state[1] = x;
        state[6] = y;
        WideOnNarrow object = Check.objectWith(state);
        String call = "operate(" + op + ", 3, 49) with x " + x + " and y " + y;
        Check.due(call, object.operate(op, 3, 1 | 6 << 3), 0L);
        state[3] = want;
        Check.dueState(call, object, state);
    }

    private static void eightRegistersOf64Bits() {
        Check.sentence("There are eight REGISTERS (0 to 7) of 64 bits each");
        for (long value : new long[] {MIN, MAX, -1L, 1L << 62, TWO_TO_32, 1L << 31, 0x8000000000000001L}) {
            for (int r = 0; r <= 7; r++) {
                long[] state = Check.distinctState();
                WideOnNarrow object = Check.objectWith(state);
                state[r] = value;
                String call = "set(" + r + ", " + value + ")";
                Check.due(call, object.set(r, value), 0L);
                Check.dueState(call, object, state);
            }
        }
    }

    private static void addWraps() {
        Check.sentence("all arithmetic is that of two's complement and wraps: ADD");
        dueResult(ADD, MAX, 1L, MIN);
        dueResult(ADD, MAX, MAX, -2L);
        dueResult(ADD, MIN, -1L, MAX);
        dueResult(ADD, MIN, MIN, 0L);
        dueResult(ADD, -1L, 1L, 0L);
        dueResult(ADD, 0xFFFFFFFFL, 1L, TWO_TO_32);
    }

    private static void subWraps() {
        Check.sentence("all arithmetic is that of two's complement and wraps: SUB");
        dueResult(SUB, MIN, 1L, MAX);
        dueResult(SUB, MAX, -1L, MIN);
        dueResult(SUB, 0L, MIN, MIN);
        dueResult(SUB, 0L, 1L, -1L);
        dueResult(SUB, TWO_TO_32, 1L, 0xFFFFFFFFL);
    }

    private static void mulWraps() {
        Check.sentence("all arithmetic is that of two's complement and wraps: MUL");
        dueResult(MUL, MIN, -1L, MIN);
        dueResult(MUL, MAX, MAX, 1L);
        dueResult(MUL, MAX, 2L, -2L);
        dueResult(MUL, MIN, 2L, 0L);
        dueResult(MUL, TWO_TO_32, TWO_TO_32, 0L);
        dueResult(MUL, TWO_TO_32, 1L << 31, MIN);
        dueResult(MUL, 0xFFFFFFFFL, 0xFFFFFFFFL, 0xFFFFFFFE00000001L);
    }

    private static void sourcesMayBeTheSame() {
        Check.sentence("two source registers x and y (which may be the same ones)");
        for (int op = 0; op < OF_SIX.length; op++) {
            dueWithOneSource(op, 4, 2);
        }
    }

    private static void sourcesMayBeTheTarget() {
        Check.sentence("a target register and two source registers x and y (which may be the same ones): all one");
        for (int op = 0; op < OF_SIX.length; op++) {
            dueWithOneSource(op, 2, 2);
        }
        Check.sentence("a target register and two source registers x and y (which may be the same ones): x");
        for (int op = 0; op < OF_SEVENTEEN_AND_FIVE.length; op++) {
            dueWithTwoSources(op, 0);
        }
        Check.sentence("a target register and two source registers x and y (which may be the same ones): y");
        for (int op = 0; op < OF_SEVENTEEN_AND_FIVE.length; op++) {
            dueWithTwoSources(op, 7);
        }
    }

    private static void dueWithOneSource(int op, int target, int source) {
        long[] state = Check.distinctState();
        state[source] = 6L;
        WideOnNarrow object = Check.objectWith(state);
        int xy = source | source << 3;
        String call = "operate(" + op + ", " + target + ", " + xy + ") with 6";
        Check.due(call, object.operate(op, target, xy), 0L);
        state[target] = OF_SIX[op];
        Check.dueState(call, object, state);
    }

    private static void dueWithTwoSources(int op, int target) {
        long[] state = Check.distinctState();
        state[0] = -17L;
        state[7] = 5L;
        WideOnNarrow object = Check.objectWith(state);
        String call = "operate(" + op + ", " + target + ", 56) with -17 and 5";
        Check.due(call, object.operate(op, target, 7 << 3), 0L);
        state[target] = OF_SEVENTEEN_AND_FIVE[op];
        Check.dueState(call, object, state);
    }

    private static void divsRoundsTowardsZero() {
        Check.sentence("DIVS x / y, both signed, rounded towards 0");
        dueResult(DIVS, 7L, 2L, 3L);
        dueResult(DIVS, -7L, 2L, -3L);
        dueResult(DIVS, 7L, -2L, -3L);
        dueResult(DIVS, -7L, -2L, 3L);
        dueResult(DIVS, 1L, -2L, 0L);
        dueResult(DIVS, -1L, 2L, 0L);
        dueResult(DIVS, 0L, -5L, 0L);
        dueResult(DIVS, -6L, 3L, -2L);
        dueResult(DIVS, MAX, MIN, 0L);
        dueResult(DIVS, MIN, MAX, -1L);
        dueResult(DIVS, MIN, MIN, 1L);
        dueResult(DIVS, MIN, 1L, MIN);
        dueResult(DIVS, MIN + 1, -1L, MAX);
        dueResult(DIVS, MAX, -1L, MIN + 1);
        dueResult(DIVS, MIN, 2L, -(1L << 62));
        dueResult(DIVS, MIN, -2L, 1L << 62);
    }

    private static void remsIsWhatDivsLeaves() {
        Check.sentence("REMS what DIVS leaves over: x - y * (x / y)");
        dueResult(REMS, 7L, 2L, 1L);
        dueResult(REMS, -7L, 2L, -1L);
        dueResult(REMS, 7L, -2L, 1L);
        dueResult(REMS, -7L, -2L, -1L);
        dueResult(REMS, 1L, -2L, 1L);
        dueResult(REMS, -1L, 2L, -1L);
        dueResult(REMS, 0L, -5L, 0L);
        dueResult(REMS, -6L, 3L, 0L);
        dueResult(REMS, MAX, MIN, MAX);
        dueResult(REMS, MIN, MAX, -1L);
        dueResult(REMS, MIN, MIN, 0L);
        dueResult(REMS, MIN, 1L, 0L);
        dueResult(REMS, MAX, -1L, 0L);
        dueResult(REMS, MIN, 10L, -8L);
        dueResult(REMS, MIN, -10L, -8L);
    }

    private static void divuRoundsDown() {
        Check.sentence("DIVU x / y, both unsigned, rounded down");
        dueResult(DIVU, 7L, 2L, 3L);
        dueResult(DIVU, -1L, 1L, -1L);
        dueResult(DIVU, -1L, 2L, MAX);
        dueResult(DIVU, -1L, 10L, 1844674407370955161L);
        dueResult(DIVU, -1L, -1L, 1L);
        dueResult(DIVU, -2L, -1L, 0L);
        dueResult(DIVU, -1L, -2L, 1L);
        dueResult(DIVU, MIN, MIN, 1L);
        dueResult(DIVU, MAX, MIN, 0L);
        dueResult(DIVU, -1L, MIN, 1L);
        dueResult(DIVU, MIN, MAX, 1L);
        dueResult(DIVU, -2L, MAX, 2L);
        dueResult(DIVU, -3L, MAX, 1L);
        dueResult(DIVU, 0L, -1L, 0L);
        dueResult(DIVU, -1L, TWO_TO_32, 0xFFFFFFFFL);
        dueResult(DIVU, -1L, 0xFFFFFFFFL, TWO_TO_32 + 1);
        dueResult(DIVU, -2L, 0xFFFFFFFFL, TWO_TO_32);
    }

    private static void remuIsWhatDivuLeaves() {
        Check.sentence("REMU what DIVU leaves over");
        dueResult(REMU, 7L, 2L, 1L);
        dueResult(REMU, -1L, 1L, 0L);
        dueResult(REMU, -1L, 2L, 1L);
        dueResult(REMU, -1L, 10L, 5L);
        dueResult(REMU, -1L, -1L, 0L);
        dueResult(REMU, -2L, -1L, -2L);
        dueResult(REMU, -1L, -2L, 1L);
        dueResult(REMU, MIN, MIN, 0L);
        dueResult(REMU, MAX, MIN, MAX);
        dueResult(REMU, -1L, MIN, MAX);
        dueResult(REMU, MIN, MAX, 1L);
        dueResult(REMU, -2L, MAX, 0L);
        dueResult(REMU, -3L, MAX, MAX - 1);
        dueResult(REMU, 0L, -1L, 0L);
        dueResult(REMU, -1L, TWO_TO_32, 0xFFFFFFFFL);
        dueResult(REMU, -2L, 0xFFFFFFFFL, 0xFFFFFFFEL);
    }

    /** Every y of which y & 63 is the count: the count itself, then with bits above the six. */
    private static void dueShift(int op, long x, int count, long want) {
        dueResult(op, x, count, want);
        dueResult(op, x, count + 64L, want);
        dueResult(op, x, count - 64L, want);
        dueResult(op, x, count + TWO_TO_32, want);
        dueResult(op, x, count + MIN, want);
        dueResult(op, x, count | MAX << 6, want);
    }

    private static void shlCount() {
        Check.sentence("SHL x shifted left by y & 63");
        long x = 0x8123456789ABCDEFL;
        dueShift(SHL, x, 0, x);
        dueShift(SHL, x, 1, 0x02468ACF13579BDEL);
        dueShift(SHL, x, 31, 0xC4D5E6F780000000L);
        dueShift(SHL, x, 32, 0x89ABCDEF00000000L);
        dueShift(SHL, x, 33, 0x13579BDE00000000L);
        dueShift(SHL, x, 63, MIN);
    }

    private static void shrCountAndZeros() {
        Check.sentence("SHR x shifted right by y & 63, zeros coming in");
        long x = 0x8123456789ABCDEFL;
        dueShift(SHR, x, 0, x);
        dueShift(SHR, x, 1, 0x4091A2B3C4D5E6F7L);
        dueShift(SHR, x, 31, 0x0000000102468ACFL);
        dueShift(SHR, x, 32, 0x0000000081234567L);
        dueShift(SHR, x, 33, 0x000000004091A2B3L);
        dueShift(SHR, x, 63, 1L);
    }

    private static void sarCountAndSign() {
        Check.sentence("SAR x shifted right by y & 63, its sign coming in");
        long x = 0x8123456789ABCDEFL;
        dueShift(SAR, x, 0, x);
        dueShift(SAR, x, 1, 0xC091A2B3C4D5E6F7L);
        dueShift(SAR, x, 31, 0xFFFFFFFF02468ACFL);
        dueShift(SAR, x, 32, 0xFFFFFFFF81234567L);
        dueShift(SAR, x, 33, 0xFFFFFFFFC091A2B3L);
        dueShift(SAR, x, 63, -1L);
        dueShift(SAR, MAX, 0, MAX);
        dueShift(SAR, MAX, 32, 0x7FFFFFFFL);
        dueShift(SAR, MAX, 63, 0L);
    }

    private static void rotlCount() {
        Check.sentence("ROTL x turned left by y & 63");
        long x = 0x8123456789ABCDEFL;
        dueShift(ROTL, x, 0, x);
        dueShift(ROTL, x, 1, 0x02468ACF13579BDFL);
        dueShift(ROTL, x, 31, 0xC4D5E6F7C091A2B3L);
        dueShift(ROTL, x, 32, 0x89ABCDEF81234567L);
        dueShift(ROTL, x, 33, 0x13579BDF02468ACFL);
        dueShift(ROTL, x, 63, 0xC091A2B3C4D5E6F7L);
    }

    private static void bitByBit() {
        Check.sentence("AND, OR, XOR bit by bit");
        long x = 0xFF00FF00F0F0CCAAL;
        long y = 0xFFFF00000FF0AA55L;
        dueResult(AND, x, y, 0xFF00000000F08800L);
        dueResult(OR, x, y, 0xFFFFFF00FFF0EEFFL);
        dueResult(XOR, x, y, 0x00FFFF00FF0066FFL);
        for (long end : new long[] {0L, -1L, MIN, MAX}) {
            dueResult(AND, end, -1L, end);
            dueResult(AND, end, 0L, 0L);
            dueResult(OR, end, -1L, -1L);
            dueResult(OR, end, 0L, end);
            dueResult(XOR, end, end, 0L);
            dueResult(XOR, end, 0L, end);
        }
    }

    private static void mulhIsUnsigned() {
        Check.sentence("MULH the upper 64 bits of the 128-bit product of x and y, both unsigned");
        dueResult(MULH, -1L, -1L, -2L);
        dueResult(MULH, -1L, 1L, 0L);
        dueResult(MULH, -1L, 2L, 1L);
        dueResult(MULH, 2L, -1L, 1L);
        dueResult(MULH, -1L, 0L, 0L);
        dueResult(MULH, MIN, MIN, 1L << 62);
        dueResult(MULH, MIN, 2L, 1L);
        dueResult(MULH, MIN, 1L, 0L);
        dueResult(MULH, MAX, MAX, (1L << 62) - 1);
        dueResult(MULH, MAX, 2L, 0L);
        dueResult(MULH, TWO_TO_32, TWO_TO_32, 1L);
        dueResult(MULH, 0xFFFFFFFFL, TWO_TO_32, 0L);
        dueResult(MULH, 0xFFFFFFFFL, 0xFFFFFFFFL, 0L);
        // The products are 2^64 - 1, just too small, and 2^64 + 2^33 + 1.
        dueResult(MULH, 0xFFFFFFFFL, TWO_TO_32 + 1, 0L);
        dueResult(MULH, TWO_TO_32 + 1, TWO_TO_32 + 1, 1L);
        dueResult(MULH, -1L, TWO_TO_32 + 1, TWO_TO_32);
        dueResult(MULH, -1L, 0xFFFFFFFFL, 0xFFFFFFFEL);
    }

    private static void clzOfZero() {
        Check.sentence("CLZ the number of zeros above the highest one of x, 64 if x is 0");
        dueResult(CLZ, 0L, 5L, 64L);
        dueResult(CLZ, 0L, 0L, 64L);
        dueResult(CLZ, 0L, -1L, 64L);
    }

    private static void clzOfTheEnds() {
        Check.sentence("CLZ the number of zeros above the highest one of x");
        for (int highest = 0; highest < 64; highest++) {
            dueResult(CLZ, 1L << highest, 9L, 63L - highest);
            dueResult(CLZ, -1L >>> (63 - highest), 9L, 63L - highest);
        }
    }

    private static void clzDoesNotLookAtY() {
        Check.sentence("CLZ (y is not looked at)");
        for (long y : new long[] {0L, 1L, 63L, 64L, -1L, MIN, MAX, 100L}) {
            dueResult(CLZ, 100L, y, 57L);
            dueResult(CLZ, -100L, y, 0L);
        }
    }

    private static void divsByZero() {
        Check.sentence("For DIVS with y being 0: a quotient of all ones (-1)");
        for (long x : DIVIDENDS) {
            dueResult(DIVS, x, 0L, -1L);
        }
    }

    private static void remsByZero() {
        Check.sentence("For REMS with y being 0: a rest of x");
        for (long x : DIVIDENDS) {
            dueResult(REMS, x, 0L, x);
        }
    }

    private static void divuByZero() {
        Check.sentence("For DIVU with y being 0: a quotient of all ones (-1)");
        for (long x : DIVIDENDS) {
            dueResult(DIVU, x, 0L, -1L);
        }
    }

    private static void remuByZero() {
        Check.sentence("For REMU with y being 0: a rest of x");
        for (long x : DIVIDENDS) {
            dueResult(REMU, x, 0L, x);
        }
    }

    private static void divsOfTheLeastByMinusOne() {
        Check.sentence("For DIVS with x being -2^63 and y -1: quotient -2^63");
        dueResult(DIVS, MIN, -1L, MIN);
    }

    private static void remsOfTheLeastByMinusOne() {
        Check.sentence("For REMS with x being -2^63 and y -1: rest 0");
        dueResult(REMS, MIN, -1L, 0L);
    }

    private static void unsignedDivisionHasNoSuchCase() {
        Check.sentence("For DIVS and REMS (alone) with x being -2^63 and y -1");
        dueResult(DIVU, MIN, -1L, 0L);
        dueResult(REMU, MIN, -1L, MIN);
    }
}
