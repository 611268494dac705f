import java.lang.reflect.Constructor;
import java.lang.reflect.Field;
import java.lang.reflect.Method;
import java.lang.reflect.Modifier;
import java.util.Arrays;
import java.util.Set;
import java.util.TreeSet;

/** The class has the document's face and nothing else that can be seen. */
public final class FaceTest {
    private static final String ARGUMENT = " IllegalArgumentException";
    private static final String STATE = " IllegalStateException";
    private static final String NO_ELEMENT = " NoSuchElementException";
    /** Each method with the exceptions that it names. */
    private static final Set<String> FACE = new TreeSet<>(Arrays.asList(
        "int feed(int, long)" + ARGUMENT + STATE, "int make(int, int, boolean)" + ARGUMENT,
        "int find(int, int)" + ARGUMENT, "int write(int, int)" + ARGUMENT, "int cut(int, int)" + ARGUMENT,
        "long read(int, int)" + ARGUMENT + NO_ELEMENT, "int move(int, int, int, int)" + ARGUMENT,
        "int remove(int, int)" + ARGUMENT, "int commit()", "int drop()", "int node(int, int)" + ARGUMENT + NO_ELEMENT,
        "int at(int, int, boolean)" + ARGUMENT, "int changed(int)" + NO_ELEMENT, "int look(int)" + NO_ELEMENT));

    public static void main(String[] args) {
        Check check = new Check();
        Set<String> seen = new TreeSet<>();
        Set<String> names = new TreeSet<>();
        for (Method m : TreeFiles.class.getDeclaredMethods()) {
            if (Modifier.isPublic(m.getModifiers())) {
                seen.add(told(m));
                names.add(m.getName());
            }
        }
        for (Method m : TreeFiles.class.getDeclaredMethods()) {
            if (!Modifier.isPublic(m.getModifiers())) {
                check.due(m + " is private", Modifier.isPrivate(m.getModifiers()) ? 1 : 0, 1);
                check.due(m + " bears a public one's name", names.contains(m.getName()) ? 1 : 0, 0);
            }
        }
        if (!seen.equals(FACE)) {
            check.tell("the face is " + seen + ", due is " + FACE);
        }
        for (Field f : TreeFiles.class.getDeclaredFields()) {
            check.due(f + " is private", Modifier.isPrivate(f.getModifiers()) ? 1 : 0, 1);
        }
        Constructor<?>[] constructors = TreeFiles.class.getDeclaredConstructors();
        check.due("constructors", constructors.length, 1);
        check.due("the constructor is public", Modifier.isPublic(constructors[0].getModifiers()) ? 1 : 0, 1);
        if (!Arrays.equals(constructors[0].getParameterTypes(), new Class<?>[] {int.class})) {
            check.tell("the constructor is " + constructors[0]);
        }
        int modifiers = TreeFiles.class.getModifiers();
        check.due("public and final", Modifier.isPublic(modifiers) && Modifier.isFinal(modifiers) ? 1 : 0, 1);
        check.end();
    }

    private static String told(Method m) {
        StringBuilder text = new StringBuilder();
        text.append(m.getReturnType()).append(' ').append(m.getName()).append('(');
        for (Class<?> type : m.getParameterTypes()) {
            text.append(text.charAt(text.length() - 1) == '(' ? "" : ", ").append(type);
        }
        text.append(')');
        for (Class<?> exception : m.getExceptionTypes()) {
            text.append(' ').append(exception.getSimpleName());
        }
        return text.toString();
    }
}
