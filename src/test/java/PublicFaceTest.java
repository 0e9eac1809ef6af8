import java.lang.reflect.Constructor;
import java.lang.reflect.Field;
import java.lang.reflect.Method;
import java.lang.reflect.Modifier;
import java.util.Set;
import java.util.TreeSet;

/** That the class shows the document's face and nothing else (rules 1 and 5 of LANGUAGE.md). */
public final class PublicFaceTest {
    private static final Set<String> FACE = Set.of(
        "public static final int WideOnNarrow.BAD_REGISTER",
        "public static final int WideOnNarrow.BAD_OP",
        "public WideOnNarrow()",
        "public int WideOnNarrow.set(int,long)",
        "public int WideOnNarrow.operate(int,int,int)",
        "public int WideOnNarrow.digit(int,int)",
        "public int WideOnNarrow.swap(int,int)",
        "public long WideOnNarrow.get(int)",
        "public boolean WideOnNarrow.less(int,int)",
        "public boolean WideOnNarrow.below(int,int)",
        "public int WideOnNarrow.digits(int)",
        "public int WideOnNarrow.digitAt(int,int)",
        "public long WideOnNarrow.root(int)");

    public static void main(String[] args) {
        Class<?> type = WideOnNarrow.class;
        Set<String> seen = new TreeSet<>();
        Set<String> shownNames = new TreeSet<>();
        Set<String> hiddenNames = new TreeSet<>();
        for (Constructor<?> constructor : type.getDeclaredConstructors()) {
            seen.add(constructor.toString());
        }
        for (Field field : type.getDeclaredFields()) {
            if (!Modifier.isPrivate(field.getModifiers())) {
                seen.add(field.toString());
            }
            boolean number = field.getType() == int.class || field.getType() == long.class;
            Check.due("static " + field + " is a number", !Modifier.isStatic(field.getModifiers()) || number, true);
        }
        for (Method method : type.getDeclaredMethods()) {
            boolean hidden = Modifier.isPrivate(method.getModifiers());
            (hidden ? hiddenNames : shownNames).add(method.getName());
            if (!hidden) {
                seen.add(method.toString());
            }
        }
        hiddenNames.retainAll(shownNames);
        Check.due("private methods with a public name " + hiddenNames, hiddenNames.size(), 0L);
        Check.due("the face is the document's: " + seen, seen.equals(FACE), true);
        Check.due("the class is public and final", type.getModifiers(), Modifier.PUBLIC | Modifier.FINAL);
        Check.due("nested classes", type.getDeclaredClasses().length, 0L);
        Check.finish();
    }
}
