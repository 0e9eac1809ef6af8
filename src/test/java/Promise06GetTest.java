public final class Promise06GetTest {
    public static void main(String[] args) {
        for (long value : Check.values()) {
            for (int r = 0; r < Check.REGISTERS; r++) {
                WideOnNarrow object = new WideOnNarrow();
                object.set(r, value);
                Check.due("get(" + r + ")", object.get(r), value);
                Check.due("get(" + r + ") again", object.get(r), value);
            }
        }
        WideOnNarrow object = Check.objectWith(Check.distinctState());
        for (int r : Check.BAD_REGISTERS) {
            Check.due("get(" + r + ")", object.get(r), 0L);
        }
        Check.dueState("get", object, Check.distinctState());
        Check.finish();
    }
}
