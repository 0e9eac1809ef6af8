import java.math.BigInteger;

/** What the tests of the promises share: telling wrong answers, values to try, and the state of an object. */
final class Check {
    static final int REGISTERS = 8;

    static final int[] BAD_REGISTERS = {
        -1, 8, 9, 15, 16, 64, 256, -2, -7, -8, -16, 65536, Integer.MAX_VALUE, Integer.MIN_VALUE
    };

    static final BigInteger TWO_TO_64 = BigInteger.ONE.shiftLeft(64);

    private static final long[] EDGES = {
        0L, 1L, 2L, 3L, 7L, 9L, 10L, 11L, 31L, 32L, 33L, 63L, 64L, 65L, 99L, 100L, 127L, 128L,
        0xFFFFL, 0x10000L, 0x7FFFFFFFL, 0x80000000L, 0xFFFFFFFEL, 0xFFFFFFFFL, 0x100000000L, 0x100000001L,
        0x1FFFFFFFFL, 999999999999999999L, 1000000000000000000L, Long.MAX_VALUE - 1, Long.MAX_VALUE,
        Long.MIN_VALUE, Long.MIN_VALUE + 1, -1L, -2L, -3L, -7L, -9L, -10L, -11L, -63L, -64L, -65L,
        0xFFFFFFFF00000000L, 0xFFFFFFFE00000001L, 0xAAAAAAAAAAAAAAAAL, 0x5555555555555555L,
        -8446744073709551616L, -8446744073709551617L, 0x8000000080000000L, 0x7FFFFFFF80000000L
    };
    private static final int MIXED = 60;

    private static int wrong = 0;
    private static String sentence = "";

    private Check() {
    }

    /** The document's words that the checks from here on stand for; told with each wrong answer. */
    static void sentence(String words) {
        sentence = "[" + words + "] ";
    }

    static void due(String call, long got, long want) {
        if (got != want) {
            wrong++;
            System.out.println(sentence + call + " answered " + got + ", due is " + want);
        }
    }

    static void due(String call, boolean got, boolean want) {
        due(call, got ? 1L : 0L, want ? 1L : 0L);
    }

    static void finish() {
        if (wrong != 0) {
            System.out.println(wrong + " answers are not as due");
            System.exit(1);
        }
    }

    /** The edges, then values of every length from a fixed sequence, so that each run tries the same ones. */
    static long[] values() {
        long[] values = new long[EDGES.length + MIXED];
        System.arraycopy(EDGES, 0, values, 0, EDGES.length);
        long seed = 20261115L;
        for (int i = 0; i < MIXED; i++) {
            seed = seed * 6364136223846793005L + 1442695040888963407L;
            long mixed = seed ^ (seed >>> 29);
            values[EDGES.length + i] = mixed >>> (i * 7 % 64);
        }
        return values;
    }

    static BigInteger unsigned(long value) {
        BigInteger signed = BigInteger.valueOf(value);
        return value < 0 ? signed.add(TWO_TO_64) : signed;
    }

    static long[] distinctState() {
        return new long[] {5L, -7L, 1234567890123L, Long.MIN_VALUE, Long.MAX_VALUE, -1L, 65536L, 0xAAAAAAAAAAAAAAAAL};
    }

    static WideOnNarrow objectWith(long[] state) {
        WideOnNarrow object = new WideOnNarrow();
        for (int r = 0; r < REGISTERS; r++) {
            due("set(" + r + ", " + state[r] + ")", object.set(r, state[r]), 0L);
        }
        return object;
    }

    static void dueState(String after, WideOnNarrow object, long[] state) {
        for (int r = 0; r < REGISTERS; r++) {
            due("after " + after + ": get(" + r + ")", object.get(r), state[r]);
        }
    }
}
