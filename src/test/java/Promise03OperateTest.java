import java.math.BigInteger;

/** Every operation against the same one done with BigInteger, the edges as literals, and wrong inputs. */
public final class Promise03OperateTest {
    private static final int OPS = 16;
    private static final long MIN = Long.MIN_VALUE;
    private static final long MAX = Long.MAX_VALUE;

    public static void main(String[] args) {
        for (long x : Check.values()) {
            for (long y : Check.values()) {
                everyOperation(x, y);
            }
        }
        everyShiftCount();
        namedEdges();
        everyTargetAndSource();
        sourcesTakeSixBitsOfXy();
        wrongOperations();
        wrongTargets();
        Check.finish();
    }

    private static void everyOperation(long x, long y) {
        for (int op = 0; op < OPS; op++) {
            dueResult(op, x, y, expected(op, x, y));
        }
    }

    private static void dueResult(int op, long x, long y, long want) {
        WideOnNarrow object = new WideOnNarrow();
        object.set(1, x);
        object.set(2, y);
        String call = "operate(" + op + ", 3, 17) with x " + x + " and y " + y;
        Check.due(call, object.operate(op, 3, 17), 0L);
        Check.due(call + ": get(3)", object.get(3), want);
        Check.due(call + ": x", object.get(1), x);
        Check.due(call + ": y", object.get(2), y);
    }

    static long expected(int op, long x, long y) {
        BigInteger sx = BigInteger.valueOf(x);
        BigInteger sy = BigInteger.valueOf(y);
        BigInteger ux = Check.unsigned(x);
        BigInteger uy = Check.unsigned(y);
        int count = uy.mod(BigInteger.valueOf(64)).intValue();
        switch (op) {
            case 0: return sx.add(sy).longValue();
            case 1: return sx.subtract(sy).longValue();
            case 2: return sx.multiply(sy).longValue();
            case 3: return y == 0 ? -1L : sx.divide(sy).longValue();
            case 4: return y == 0 ? x : sx.remainder(sy).longValue();
            case 5: return y == 0 ? -1L : ux.divide(uy).longValue();
            case 6: return ux.shiftLeft(count).longValue();
            case 7: return ux.shiftRight(count).longValue();
            case 8: return sx.shiftRight(count).longValue();
            case 9: return sx.and(sy).longValue();
            case 10: return sx.or(sy).longValue();
            case 11: return sx.xor(sy).longValue();
            case 12: return ux.multiply(uy).shiftRight(64).longValue();
            case 13: return ux.shiftLeft(count).or(ux.shiftRight(64 - count)).longValue();
            case 14: return 64 - ux.bitLength();
            default: return y == 0 ? x : ux.mod(uy).longValue();
        }
    }

    private static void everyShiftCount() {
        long x = 0x9234567890ABCDE7L;
        for (long y = -130; y <= 130; y++) {
            everyOperation(x, y);
            everyOperation(-x, y);
            everyOperation(1L << (y & 63), y);
        }
    }

    /** Literals straight from the document's words, so that a slip in expected() can't hide one. */
    private static void namedEdges() {
        dueResult(0, MAX, 1L, MIN);
        dueResult(1, MIN, 1L, MAX);
        dueResult(2, MIN, -1L, MIN);
        for (long x : new long[] {0L, 1L, 42L, -42L, MIN, MAX, -1L}) {
            dueResult(3, x, 0L, -1L);
            dueResult(4, x, 0L, x);
            dueResult(5, x, 0L, -1L);
            dueResult(15, x, 0L, x);
        }
        dueResult(3, MIN, -1L, MIN);
        dueResult(4, MIN, -1L, 0L);
        dueResult(3, -7L, 2L, -3L);
        dueResult(4, -7L, 2L, -1L);
        dueResult(3, 7L, -2L, -3L);
        dueResult(4, 7L, -2L, 1L);
        dueResult(5, -1L, 10L, 1844674407370955161L);
        dueResult(15, -1L, 10L, 5L);
        dueResult(5, MIN, -1L, 0L);
        dueResult(15, MIN, -1L, MIN);
        dueResult(6, 1L, 64L, 1L);
        dueResult(6, 1L, -1L, MIN);
        dueResult(7, -1L, 63L, 1L);
        dueResult(8, MIN, 63L, -1L);
        dueResult(8, MIN, 64L, MIN);
        dueResult(12, -1L, -1L, -2L);
        dueResult(13, MIN, 1L, 1L);
        dueResult(13, MIN, 64L, MIN);
        dueResult(14, 0L, 5L, 64L);
        dueResult(14, 1L, 0L, 63L);
        dueResult(14, -1L, 3L, 0L);
    }

    private static void everyTargetAndSource() {
        for (int op = 0; op < OPS; op++) {
            for (int target = 0; target < Check.REGISTERS; target++) {
                for (int xy = 0; xy < 64; xy++) {
                    dueStateAfter(op, target, xy, xy & 7, xy / 8);
                }
            }
        }
    }

    private static void dueStateAfter(int op, int target, int xy, int x, int y) {
        long[] state = Check.distinctState();
        WideOnNarrow object = Check.objectWith(state);
        state[target] = expected(op, state[x], state[y]);
        String call = "operate(" + op + ", " + target + ", " + xy + ")";
        Check.due(call, object.operate(op, target, xy), 0L);
        Check.dueState(call, object, state);
    }

    private static void sourcesTakeSixBitsOfXy() {
        dueStateAfter(1, 6, -1, 7, 7);
        dueStateAfter(1, 6, -2, 6, 7);
        dueStateAfter(1, 6, -9, 7, 6);
        dueStateAfter(1, 6, -64, 0, 0);
        dueStateAfter(1, 6, 64 + 8 * 3 + 2, 2, 3);
        dueStateAfter(1, 6, 1 << 30 | 8 * 5 + 1, 1, 5);
        dueStateAfter(1, 6, Integer.MIN_VALUE, 0, 0);
        dueStateAfter(1, 6, Integer.MIN_VALUE + 8 * 2 + 4, 4, 2);
        dueStateAfter(1, 6, Integer.MAX_VALUE, 7, 7);
    }

    private static void wrongOperations() {
        for (int op : new int[] {-1, 16, 17, -2, -16, 31, 32, 256, Integer.MIN_VALUE, Integer.MAX_VALUE}) {
            dueNothing(op, 2, WideOnNarrow.BAD_OP);
        }
    }

    private static void wrongTargets() {
        for (int op = 0; op < OPS; op++) {
            for (int target : Check.BAD_REGISTERS) {
                dueNothing(op, target, WideOnNarrow.BAD_REGISTER);
            }
        }
    }

    private static void dueNothing(int op, int target, int answer) {
        WideOnNarrow object = Check.objectWith(Check.distinctState());
        String call = "operate(" + op + ", " + target + ", 10)";
        Check.due(call, object.operate(op, target, 10), answer);
        Check.dueState(call, object, Check.distinctState());
    }
}
