/** Calls of all kinds on one object up to its 512th, right and wrong ones mixed, each against the model. */
public final class MixedRunsTest {
    private static final int RUNS = 500;
    private static final int MOST_CALLS = 512;
    private static final int[] WRONG = {-1, 8, 10, 16, 20, -8, 64, Integer.MIN_VALUE, Integer.MAX_VALUE};

    private final long[] values = Check.values();
    private final int run;
    private final WideOnNarrow object = new WideOnNarrow();
    private final Model model = new Model();
    private long seed;

    private MixedRunsTest(int run) {
        this.run = run;
        this.seed = run;
    }

    public static void main(String[] args) {
        for (int run = 0; run < RUNS; run++) {
            new MixedRunsTest(run).calls();
        }
        Check.finish();
    }

    /** From a fixed sequence, so that each run of the test makes the same calls. */
    private int next(int bound) {
        seed = seed * 6364136223846793005L + 1442695040888963407L;
        return (int) ((seed >>> 33) % bound);
    }

    private int mostlyBelow(int bound) {
        return next(16) == 0 ? WRONG[next(WRONG.length)] : next(bound);
    }

    /** Each call is followed by a get of its register, before a later call can cover a wrong value. */
    private void calls() {
        for (int call = 1; call < MOST_CALLS - Check.REGISTERS; call += 2) {
            Check.sentence("run " + run + ", call " + call);
            dueRegister(oneCall());
        }
        Check.sentence("run " + run + ", its last calls");
        for (int r = 0; r < Check.REGISTERS; r++) {
            dueRegister(r);
        }
    }

    private void dueRegister(int r) {
        Check.due("get(" + r + ")", object.get(r), model.get(r));
    }

    /** Answers the register that the call is about. */
    private int oneCall() {
        int kind = next(16);
        if (kind < 6) {
            return operate();
        }
        return kind < 10 ? change(kind) : ask(kind);
    }

    private int operate() {
        int op = mostlyBelow(16);
        int target = mostlyBelow(8);
        int xy = next(4) == 0 ? (int) values[next(values.length)] : next(64);
        String call = "operate(" + op + ", " + target + ", " + xy + ")";
        Check.due(call, object.operate(op, target, xy), model.operate(op, target, xy));
        return target;
    }

    private int change(int kind) {
        int r = mostlyBelow(8);
        int other = mostlyBelow(kind == 8 ? 10 : 8);
        long value = values[next(values.length)];
        if (kind == 8) {
            Check.due("digit(" + r + ", " + other + ")", object.digit(r, other), model.digit(r, other));
        } else if (kind == 9) {
            Check.due("swap(" + r + ", " + other + ")", object.swap(r, other), model.swap(r, other));
        } else {
            Check.due("set(" + r + ", " + value + ")", object.set(r, value), model.set(r, value));
        }
        return r;
    }

    private int ask(int kind) {
        int r = mostlyBelow(8);
        int other = mostlyBelow(kind == 14 ? 20 : 8);
        String one = "(" + r + ")";
        String two = "(" + r + ", " + other + ")";
        switch (kind) {
            case 10: dueRegister(r); break;
            case 11: Check.due("less" + two, object.less(r, other), model.less(r, other)); break;
            case 12: Check.due("below" + two, object.below(r, other), model.below(r, other)); break;
            case 13: Check.due("digits" + one, object.digits(r), model.digits(r)); break;
            case 14: Check.due("digitAt" + two, object.digitAt(r, other), model.digitAt(r, other)); break;
            default: Check.due("root" + one, object.root(r), model.root(r)); break;
        }
        return r;
    }
}
