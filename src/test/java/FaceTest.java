import java.lang.reflect.Constructor;
import java.lang.reflect.Field;
import java.lang.reflect.Method;
import java.lang.reflect.Modifier;
import java.util.Arrays;
import java.util.TreeSet;

/** The public face: all that the document tells, with the exceptions, and nothing else that can be seen. */
public final class FaceTest extends Checks {
    private static final String A = "IllegalArgumentException";
    private static final String S = "IllegalStateException";
    private static final String X = "IndexOutOfBoundsException";

    /** Answer, name and how many ints, then the exceptions in the document's order. */
    private static final String[] FACE = {
        "void begin 2 " + A, "void join 1 " + A + " " + S, "void leave 1 " + A + " " + S,
        "void crash 1 " + A + " " + S, "int send 3 " + A + " " + S, "void part 1 " + A, "int tick 0",
        "void deliver 1 " + X, "void lose 1 " + X, "int go 3 " + A, "int look 1 " + A,
        "int packet 2 " + X + " " + A, "int about 2 " + A, "int stream 4 " + A, "int event 3 " + A + " " + X};

    public static void main(String[] args) {
        test("public final class ViewHall", FaceTest::theClass);
        test("public ViewHall()", FaceTest::constructors);
        test("the methods", FaceTest::methods);
        test("no other member", FaceTest::otherMembers);
        test("the classes inside", FaceTest::inside);
        finish();
    }

    private static void isSo(String words, boolean so) {
        due(words, so ? 1 : 0, 1);
    }

    private static void theClass() {
        int modifiers = ViewHall.class.getModifiers();
        isSo("public", Modifier.isPublic(modifiers));
        isSo("final", Modifier.isFinal(modifiers));
        isSo("no class above it", ViewHall.class.getSuperclass() == Object.class);
        due("interfaces", ViewHall.class.getInterfaces().length, 0);
        isSo("no package", ViewHall.class.getPackageName().isEmpty());
    }

    private static void constructors() {
        Constructor<?>[] all = ViewHall.class.getDeclaredConstructors();
        due("constructors", all.length, 1);
        isSo("public", Modifier.isPublic(all[0].getModifiers()));
        due("parameters", all[0].getParameterCount(), 0);
        due("exceptions", all[0].getExceptionTypes().length, 0);
    }

    private static String words(Method method) {
        StringBuilder words = new StringBuilder(method.getReturnType() + " " + method.getName());
        words.append(" ").append(method.getParameterCount());
        for (Class<?> exception : method.getExceptionTypes()) {
            words.append(" ").append(exception.getSimpleName());
        }
        return words.toString();
    }

    private static void methods() {
        TreeSet<String> found = new TreeSet<>();
        for (Method method : ViewHall.class.getDeclaredMethods()) {
            if (Modifier.isPublic(method.getModifiers())) {
                found.add(words(method));
                isSo(method.getName() + " is of the object", !Modifier.isStatic(method.getModifiers()));
                for (Class<?> type : method.getParameterTypes()) {
                    isSo(method.getName() + " takes ints", type == int.class);
                }
            }
        }
        for (String words : FACE) {
            isSo(words, found.remove(words));
        }
        due("others: " + found, found.size(), 0);
    }

    private static void otherMembers() {
        TreeSet<String> names = new TreeSet<>();
        for (String words : FACE) {
            names.add(words.split(" ")[1]);
        }
        for (Method method : ViewHall.class.getDeclaredMethods()) {
            if (!Modifier.isPublic(method.getModifiers()) && !method.isSynthetic()) {
                isSo(method.getName() + " is private", Modifier.isPrivate(method.getModifiers()));
                isSo(method.getName() + " is not a public one's name", !names.contains(method.getName()));
            }
        }
        for (Field field : ViewHall.class.getDeclaredFields()) {
            isSo(field.getName() + " is private", Modifier.isPrivate(field.getModifiers()));
        }
    }

    private static void inside() {
        Class<?>[] inside = ViewHall.class.getDeclaredClasses();
        isSo("twelve classes at most", inside.length + 1 <= 12);
        for (Class<?> one : inside) {
            isSo(one + " is not seen from outside", (one.getModifiers() & (Modifier.PUBLIC | Modifier.PROTECTED)) == 0);
            isSo(one + " is static", Modifier.isStatic(one.getModifiers()));
            long fields = Arrays.stream(one.getDeclaredFields()).filter(f -> !Modifier.isStatic(f.getModifiers())).count();
            isSo(one + " has twenty fields at most", fields <= 20);
            for (Field field : one.getDeclaredFields()) {
                boolean changes = !Modifier.isFinal(field.getModifiers()) && Modifier.isStatic(field.getModifiers());
                isSo(one + " has no static state", !changes);
            }
        }
    }
}
