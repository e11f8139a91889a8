import java.lang.reflect.Constructor;
import java.lang.reflect.Field;
import java.lang.reflect.Method;
import java.lang.reflect.Modifier;
import java.util.Arrays;
import java.util.TreeSet;

/** The public face: the members that the document lists, with their exceptions, and no others. */
public final class FaceTest {
    private static final Check check = new Check();
    private static final String ARGUMENT = "IllegalArgumentException";
    private static final String INDEX = "IndexOutOfBoundsException";
    private static final String STATE = "IllegalStateException";
    private static final String ELEMENT = "NoSuchElementException";
    private static final String UNSUPPORTED = "UnsupportedOperationException";

    public static void main(String[] args) {
        check.about("The public face");
        Class<?> face = SchemaDesk.class;
        check.same("modifiers", face.getModifiers(), Modifier.PUBLIC | Modifier.FINAL);
        methods(face);
        fields(face);
        check.same("constructors", face.getDeclaredConstructors().length, 1);
        Constructor<?> made = face.getDeclaredConstructors()[0];
        check.same("constructor", Modifier.isPublic(made.getModifiers())
                && made.getParameterCount() == 0, true);
        for (Class<?> inside : face.getDeclaredClasses()) {
            int modifiers = inside.getModifiers();
            check.same(inside.getName(), Modifier.isStatic(modifiers)
                    && !Modifier.isPublic(modifiers) && !Modifier.isProtected(modifiers), true);
        }
        check.end();
    }

    private static void methods(Class<?> face) {
        TreeSet<String> due = new TreeSet<>(Arrays.asList(
                "boolean type(int, char) []",
                "boolean word(int, int) []",
                "void insert(int, int, char) [" + ARGUMENT + ", " + INDEX + ", " + STATE + "]",
                "void remove(int, int, int) [" + ARGUMENT + ", " + INDEX + "]",
                "int length(int) [" + ARGUMENT + "]",
                "char letter(int, int) [" + ARGUMENT + ", " + INDEX + "]",
                "int nodes(int) [" + ARGUMENT + "]",
                "int node(int, int, int) [" + ARGUMENT + ", " + ELEMENT + "]",
                "int faults(int) [" + ARGUMENT + "]",
                "int fault(int, int) [" + ARGUMENT + ", " + ELEMENT + "]",
                "boolean holds(int, int) [" + ELEMENT + ", " + UNSUPPORTED + "]",
                "int judge() [" + STATE + ", " + UNSUPPORTED + "]",
                "int diagnostic(int, int) [" + ARGUMENT + ", " + ELEMENT + "]",
                "int propose(int) [" + ELEMENT + ", " + UNSUPPORTED + "]",
                "int proposal(int, int) [" + ELEMENT + "]"));
        TreeSet<String> got = new TreeSet<>();
        for (Method method : face.getDeclaredMethods()) {
            if (!Modifier.isPrivate(method.getModifiers())) {
                got.add(method.getReturnType() + " " + method.getName() + "("
                        + names(method.getParameterTypes()) + ") ["
                        + names(method.getExceptionTypes()) + "]"
                        + (Modifier.isPublic(method.getModifiers()) ? "" : " not public"));
            }
        }
        check.same("methods", String.join("\n", got), String.join("\n", due));
    }

    private static String names(Class<?>[] types) {
        return String.join(", ", Arrays.stream(types).map(Class::getSimpleName).toList());
    }

    private static void fields(Class<?> face) {
        for (Field field : face.getDeclaredFields()) {
            boolean isNone = field.getName().equals("NONE");
            check.same(field.getName(), field.getModifiers() & (Modifier.PUBLIC | Modifier.PRIVATE
                    | Modifier.PROTECTED), isNone ? Modifier.PUBLIC : Modifier.PRIVATE);
            if (Modifier.isStatic(field.getModifiers())) {
                check.same(field.getName() + " is final", Modifier.isFinal(field.getModifiers()),
                        true);
            }
        }
        check.same("NONE", SchemaDesk.NONE, -1);
    }
}
