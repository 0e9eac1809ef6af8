public final class Promise01NewObjectTest {
    public static void main(String[] args) {
        Check.dueState("new", new WideOnNarrow(), new long[Check.REGISTERS]);
        objectsShareNothing();
        Check.finish();
    }

    private static void objectsShareNothing() {
        WideOnNarrow first = Check.objectWith(Check.distinctState());
        WideOnNarrow second = new WideOnNarrow();
        Check.dueState("new beside another", second, new long[Check.REGISTERS]);
        second.set(0, 99L);
        Check.dueState("set on another", first, Check.distinctState());
    }
}
