public final class Promise05SwapTest {
    public static void main(String[] args) {
        for (int a = 0; a < Check.REGISTERS; a++) {
            for (int b = 0; b < Check.REGISTERS; b++) {
                exchanges(a, b);
            }
        }
        for (int bad : Check.BAD_REGISTERS) {
            for (int good = 0; good < Check.REGISTERS; good++) {
                dueNothing(bad, good);
                dueNothing(good, bad);
            }
            dueNothing(bad, bad);
            dueNothing(bad, -1);
        }
        Check.finish();
    }

    private static void exchanges(int a, int b) {
        long[] before = Check.distinctState();
        long[] after = Check.distinctState();
        after[a] = before[b];
        after[b] = before[a];
        WideOnNarrow object = Check.objectWith(before);
        String call = "swap(" + a + ", " + b + ")";
        Check.due(call, object.swap(a, b), 0L);
        Check.dueState(call, object, after);
        Check.due(call + " again", object.swap(a, b), 0L);
        Check.dueState(call + " twice", object, before);
    }

    private static void dueNothing(int a, int b) {
        WideOnNarrow object = Check.objectWith(Check.distinctState());
        String call = "swap(" + a + ", " + b + ")";
        Check.due(call, object.swap(a, b), WideOnNarrow.BAD_REGISTER);
        Check.dueState(call, object, Check.distinctState());
    }
}
