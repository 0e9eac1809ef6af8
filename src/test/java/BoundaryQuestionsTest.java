import java.util.function.ToLongFunction;

/** A test for each boundary of the calls that change nothing: the words ahead of them, and promises 6 to 11. */
public final class BoundaryQuestionsTest {
    private static final long MIN = Long.MIN_VALUE;
    private static final long MAX = Long.MAX_VALUE;
    private static final long TEN_TO_18 = 1000000000000000000L;
    /** 10^19, which is above 2^63. */
    private static final long TEN_TO_19 = -8446744073709551616L;
    private static final long GREATEST_ROOT = 0xFFFFFFFFL;

    private static final int[] TOO_SMALL = {-1, -2, -7, -8, -9, -256, Integer.MIN_VALUE, Integer.MIN_VALUE + 7};
    private static final int[] TOO_LARGE = {8, 9, 15, 16, 32, 64, 256, 65536, 1 << 30, Integer.MAX_VALUE};

    public static void main(String[] args) {
        questionsChangeNothing();
        getOfEveryRegister();
        getOfAWrongRegister();
        lessAtTheEnds();
        lessOfEqualValues();
        lessOfAWrongRegister();
        belowAtTheEnds();
        belowOfEqualValues();
        belowOfAWrongRegister();
        digitsOfZero();
        digitsAtEachLength();
        digitsOfAnUnsignedValue();
        digitsOfAWrongRegister();
        digitAtTheLowest();
        digitAtTheHighest();
        digitAtBeyondTheDigits();
        digitAtBelowZero();
        digitAtOfAWrongRegister();
        rootOfTheLeastValues();
        rootAroundSquares();
        rootOfAnUnsignedValue();
        rootAnsweredAsALong();
        rootOfAWrongRegister();
        Check.finish();
    }

    /** One question on an object with eight different values, looked at in full afterwards. */
    private static void dueAnswer(String call, ToLongFunction<WideOnNarrow> question, long want) {
        WideOnNarrow object = Check.objectWith(Check.distinctState());
        Check.due(call, question.applyAsLong(object), want);
        Check.dueState(call, object, Check.distinctState());
    }

    private static void questionsChangeNothing() {
        Check.sentence("The calls below change nothing");
        for (int r = 0; r <= 7; r++) {
            int a = r;
            int b = (r + 3) % 8;
            long value = Check.distinctState()[a];
            long other = Check.distinctState()[b];
            String text = Long.toUnsignedString(value);
            dueAnswer("get(" + a + ")", o -> o.get(a), value);
            dueAnswer("less(" + a + ", " + b + ")", o -> o.less(a, b) ? 1L : 0L, value < other ? 1L : 0L);
            dueAnswer("below(" + a + ", " + b + ")", o -> o.below(a, b) ? 1L : 0L,
                Long.compareUnsigned(value, other) < 0 ? 1L : 0L);
            dueAnswer("digits(" + a + ")", o -> o.digits(a), text.length());
            dueAnswer("digitAt(" + a + ", 0)", o -> o.digitAt(a, 0), text.charAt(text.length() - 1) - '0');
            dueAnswer("digitAt(" + a + ", 30)", o -> o.digitAt(a, 30), 0L);
            dueAnswer("digitAt(" + a + ", -1)", o -> o.digitAt(a, -1), 0L);
            dueAnswer("root(" + a + ")", o -> o.root(a), Check.unsigned(value).sqrt().longValue());
        }
    }

    private static void getOfEveryRegister() {
        Check.sentence("Promise 6: get: The value of a register");
        for (long value : new long[] {0L, 1L, -1L, MIN, MAX, GREATEST_ROOT, GREATEST_ROOT + 1}) {
            for (int r = 0; r <= 7; r++) {
                WideOnNarrow object = Check.objectWith(Check.distinctState());
                object.set(r, value);
                Check.due("get(" + r + ") of " + value, object.get(r), value);
            }
        }
    }

    private static void getOfAWrongRegister() {
        Check.sentence("Promise 6: get: 0 if r is not in 0 to 7");
        for (int r : TOO_SMALL) {
            dueAnswer("get(" + r + ")", o -> o.get(r), 0L);
        }
        for (int r : TOO_LARGE) {
            dueAnswer("get(" + r + ")", o -> o.get(r), 0L);
        }
    }

    private static void dueLess(long a, long b, boolean want) {
        WideOnNarrow object = new WideOnNarrow();
        object.set(0, a);
        object.set(7, b);
        Check.due("less(0, 7) with " + a + " and " + b, object.less(0, 7), want);
    }

    private static void lessAtTheEnds() {
        Check.sentence("Promise 7: Whether a's signed value is less than b's");
        dueLess(MIN, MAX, true);
        dueLess(MAX, MIN, false);
        dueLess(MIN, MIN + 1, true);
        dueLess(MIN + 1, MIN, false);
        dueLess(MAX - 1, MAX, true);
        dueLess(MAX, MAX - 1, false);
        dueLess(-1L, 0L, true);
        dueLess(0L, -1L, false);
        dueLess(MIN, 1L, true);
        dueLess(1L, MIN, false);
        dueLess(-1L, MAX, true);
        dueLess(MAX, -1L, false);
        dueLess(GREATEST_ROOT, GREATEST_ROOT + 1, true);
        dueLess(GREATEST_ROOT + 1, GREATEST_ROOT, false);
    }

    private static void lessOfEqualValues() {
        Check.sentence("Promise 7: less than: not of equal values, nor of one register");
        for (long value : new long[] {0L, 1L, -1L, MIN, MAX}) {
            dueLess(value, value, false);
        }
        for (int r = 0; r <= 7; r++) {
            int same = r;
            dueAnswer("less(" + r + ", " + r + ")", o -> o.less(same, same) ? 1L : 0L, 0L);
        }
    }

    private static void dueFalse(int a, int b) {
        dueAnswer("less(" + a + ", " + b + ")", o -> o.less(a, b) ? 1L : 0L, 0L);
    }

    /** Registers with values of both signs stand beside the wrong one: it counts neither as less nor as more. */
    private static void lessOfAWrongRegister() {
        Check.sentence("A register not in 0 to 7 is BAD_REGISTER, but for the booleans (false): less");
        for (int r = 0; r <= 7; r++) {
            for (int small : TOO_SMALL) {
                dueFalse(small, r);
                dueFalse(r, small);
            }
            for (int large : TOO_LARGE) {
                dueFalse(large, r);
                dueFalse(r, large);
            }
        }
        for (int small : TOO_SMALL) {
            for (int large : TOO_LARGE) {
                dueFalse(small, large);
                dueFalse(large, small);
            }
        }
    }

    private static void dueBelow(long a, long b, boolean want) {
        WideOnNarrow object = new WideOnNarrow();
        object.set(0, a);
        object.set(7, b);
        Check.due("below(0, 7) with " + a + " and " + b, object.below(0, 7), want);
    }

    private static void belowAtTheEnds() {
        Check.sentence("Promise 8: Whether a's unsigned value is less than b's");
        dueBelow(0L, -1L, true);
        dueBelow(-1L, 0L, false);
        dueBelow(MAX, MIN, true);
        dueBelow(MIN, MAX, false);
        dueBelow(-2L, -1L, true);
        dueBelow(-1L, -2L, false);
        dueBelow(MIN, MIN + 1, true);
        dueBelow(MIN + 1, MIN, false);
        dueBelow(0L, 1L, true);
        dueBelow(1L, 0L, false);
        dueBelow(0L, MIN, true);
        dueBelow(MIN, 0L, false);
        dueBelow(MAX, -1L, true);
        dueBelow(-1L, MAX, false);
        dueBelow(GREATEST_ROOT, GREATEST_ROOT + 1, true);
        dueBelow(GREATEST_ROOT + 1, GREATEST_ROOT, false);
    }

    private static void belowOfEqualValues() {
        Check.sentence("Promise 8: less than: not of equal values, nor of one register");
        for (long value : new long[] {0L, 1L, -1L, MIN, MAX}) {
            dueBelow(value, value, false);
        }
        for (int r = 0; r <= 7; r++) {
            int same = r;
            dueAnswer("below(" + r + ", " + r + ")", o -> o.below(same, same) ? 1L : 0L, 0L);
        }
    }

    private static void dueNotBelow(int a, int b) {
        dueAnswer("below(" + a + ", " + b + ")", o -> o.below(a, b) ? 1L : 0L, 0L);
    }

    private static void belowOfAWrongRegister() {
        Check.sentence("A register not in 0 to 7 is BAD_REGISTER, but for the booleans (false): below");
        for (int r = 0; r <= 7; r++) {
            for (int small : TOO_SMALL) {
                dueNotBelow(small, r);
                dueNotBelow(r, small);
            }
            for (int large : TOO_LARGE) {
                dueNotBelow(large, r);
                dueNotBelow(r, large);
            }
        }
        for (int small : TOO_SMALL) {
            for (int large : TOO_LARGE) {
                dueNotBelow(small, large);
                dueNotBelow(large, small);
            }
        }
    }

    private static void dueDigits(long value, int want) {
        for (int r = 0; r <= 7; r++) {
            WideOnNarrow object = new WideOnNarrow();
            object.set(r, value);
            Check.due("digits(" + r + ") of " + value, object.digits(r), want);
        }
    }

    private static void digitsOfZero() {
        Check.sentence("Promise 9: digits: (1 for 0)");
        dueDigits(0L, 1);
    }

    private static void digitsAtEachLength() {
        Check.sentence("Promise 9: How many digits the register's unsigned value has in base ten");
        dueDigits(1L, 1);
        long power = 10L;
        for (int length = 2; length <= 20; length++) {
            dueDigits(power - 1L, length - 1);
            dueDigits(power, length);
            power *= 10L;
        }
    }

    private static void digitsOfAnUnsignedValue() {
        Check.sentence("Promise 9: digits: the register's unsigned value");
        dueDigits(MAX, 19);
        dueDigits(MIN, 19);
        dueDigits(TEN_TO_19 - 1L, 19);
        dueDigits(TEN_TO_19, 20);
        dueDigits(-1L, 20);
    }

    private static void digitsOfAWrongRegister() {
        Check.sentence("A register not in 0 to 7 is BAD_REGISTER: digits");
        for (int r : TOO_SMALL) {
            dueAnswer("digits(" + r + ")", o -> o.digits(r), -1L);
        }
        for (int r : TOO_LARGE) {
            dueAnswer("digits(" + r + ")", o -> o.digits(r), -1L);
        }
    }

    private static void dueDigitAt(long value, int i, int want) {
        for (int r = 0; r <= 7; r++) {
            WideOnNarrow object = new WideOnNarrow();
            object.set(r, value);
            Check.due("digitAt(" + r + ", " + i + ") of " + value, object.digitAt(r, i), want);
        }
    }

    private static void digitAtTheLowest() {
        Check.sentence("Promise 10: The digit number i, from 0 for the lowest");
        dueDigitAt(0L, 0, 0);
        dueDigitAt(9L, 0, 9);
        dueDigitAt(10L, 0, 0);
        dueDigitAt(10L, 1, 1);
        dueDigitAt(987L, 0, 7);
        dueDigitAt(987L, 1, 8);
        dueDigitAt(987L, 2, 9);
    }

    private static void digitAtTheHighest() {
        Check.sentence("Promise 10: digitAt: of the register's unsigned value in base ten");
        String greatest = "18446744073709551615";
        for (int i = 0; i < 20; i++) {
            dueDigitAt(-1L, i, greatest.charAt(19 - i) - '0');
        }
        dueDigitAt(MIN, 18, 9);
        dueDigitAt(MIN, 0, 8);
        dueDigitAt(MAX, 18, 9);
        dueDigitAt(MAX, 0, 7);
        dueDigitAt(TEN_TO_19, 19, 1);
        dueDigitAt(TEN_TO_19, 18, 0);
        dueDigitAt(TEN_TO_19 - 1L, 18, 9);
    }

    private static void digitAtBeyondTheDigits() {
        Check.sentence("Promise 10: digitAt: 0 beyond its digits");
        int[] far = {20, 21, 22, 31, 32, 63, 64, 65, 256, 65536, 1 << 30, Integer.MAX_VALUE};
        for (long value : new long[] {0L, 7L, 99L, MAX, MIN, TEN_TO_18, TEN_TO_19 - 1L, TEN_TO_19, -1L}) {
            for (int i : far) {
                dueDigitAt(value, i, 0);
            }
        }
        dueDigitAt(0L, 1, 0);
        dueDigitAt(7L, 1, 0);
        dueDigitAt(99L, 2, 0);
        dueDigitAt(99L, 19, 0);
        dueDigitAt(TEN_TO_18 - 1L, 18, 0);
        dueDigitAt(MAX, 19, 0);
        dueDigitAt(MIN, 19, 0);
        dueDigitAt(TEN_TO_19 - 1L, 19, 0);
    }

    private static void digitAtBelowZero() {
        Check.sentence("Promise 10: digitAt: 0 for i below 0");
        int[] negative = {-1, -2, -19, -20, -32, -64, -256, Integer.MIN_VALUE, Integer.MIN_VALUE + 1};
        for (long value : new long[] {0L, 7L, 99L, MAX, MIN, TEN_TO_19, -1L}) {
            for (int i : negative) {
                dueDigitAt(value, i, 0);
            }
        }
    }

    private static void digitAtOfAWrongRegister() {
        Check.sentence("A register not in 0 to 7 is BAD_REGISTER: digitAt");
        for (int i = 0; i < 20; i++) {
            int place = i;
            for (int r : TOO_SMALL) {
                dueAnswer("digitAt(" + r + ", " + i + ")", o -> o.digitAt(r, place), -1L);
            }
            for (int r : TOO_LARGE) {
                dueAnswer("digitAt(" + r + ", " + i + ")", o -> o.digitAt(r, place), -1L);
            }
        }
    }

    private static void dueRoot(long value, long want) {
        for (int r = 0; r <= 7; r++) {
            WideOnNarrow object = new WideOnNarrow();
            object.set(r, value);
            Check.due("root(" + r + ") of " + value, object.root(r), want);
        }
    }

    private static void rootOfTheLeastValues() {
        Check.sentence("Promise 11: The greatest k such that k * k is at most the register's unsigned value: the least");
        dueRoot(0L, 0L);
        dueRoot(1L, 1L);
        dueRoot(2L, 1L);
        dueRoot(3L, 1L);
        dueRoot(4L, 2L);
        dueRoot(8L, 2L);
        dueRoot(9L, 3L);
    }

    private static void rootAroundSquares() {
        Check.sentence("Promise 11: k * k is at most the value: the square itself and the values beside it");
        long[] roots = {
            10L, 255L, 256L, 65535L, 65536L, 65537L, 0x7FFFFFFFL, 0x80000000L, 0x80000001L, 3037000499L, 3037000500L,
            4000000000L, GREATEST_ROOT - 1, GREATEST_ROOT
        };
        for (long k : roots) {
            dueRoot(k * k - 1L, k - 1L);
            dueRoot(k * k, k);
            dueRoot(k * k + 1L, k);
            dueRoot(k * k + 2L * k, k);
        }
    }

    private static void rootOfAnUnsignedValue() {
        Check.sentence("Promise 11: root: the register's unsigned value");
        dueRoot(MAX, 3037000499L);
        dueRoot(MIN, 3037000499L);
        dueRoot(-1L, GREATEST_ROOT);
        dueRoot(-2L, GREATEST_ROOT);
        // (2^32 - 1)^2 is 2^64 - 2^33 + 1.
        dueRoot(1L - (1L << 33), GREATEST_ROOT);
        dueRoot(-(1L << 33), GREATEST_ROOT - 1);
    }

    private static void rootAnsweredAsALong() {
        Check.sentence("Promise 11: as an unsigned number below 2^32: answered as a long");
        dueRoot(1L << 62, 0x80000000L);
        dueRoot((1L << 62) - 1L, 0x7FFFFFFFL);
        dueRoot(-1L, 4294967295L);
    }

    private static void rootOfAWrongRegister() {
        Check.sentence("Promise 11: root: 0 if r is not in 0 to 7");
        for (int r : TOO_SMALL) {
            dueAnswer("root(" + r + ")", o -> o.root(r), 0L);
        }
        for (int r : TOO_LARGE) {
            dueAnswer("root(" + r + ")", o -> o.root(r), 0L);
        }
    }
}
