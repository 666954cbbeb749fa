import java.lang.reflect.Method;
import java.lang.reflect.Modifier;
import java.nio.file.Files;
import java.nio.file.Path;
import java.util.ArrayList;
import java.util.List;
import java.util.regex.Matcher;
import java.util.regex.Pattern;

/** What README.md says is so: its example gives the answers beside it, and it names each call and each test. */
public final class ReadmeTest extends Checks {
    /** A call of the example; a comment that begins with a number and a colon tells the answer. */
    private static final Pattern CALL =
        Pattern.compile("hall\\.(\\w+)\\(([-0-9, ]*)\\);(?:\\s+// (?:(-?\\d+):)?.*)?");

    public static void main(String[] args) {
        test("the example", ReadmeTest::example);
        test("each call of the face is named", ReadmeTest::callsAreNamed);
        test("each test is named, and each that is named is there", ReadmeTest::testsAreNamed);
        finish();
    }

    private static String readme() {
        return text(Path.of("README.md"));
    }

    private static String text(Path file) {
        try {
            return Files.readString(file);
        } catch (java.io.IOException e) {
            throw new IllegalStateException(e);
        }
    }

    private static void example() {
        String text = readme();
        int start = text.indexOf("```java\n") + 8;
        String[] lines = text.substring(start, text.indexOf("```", start)).split("\n");
        due("it begins with a new object", lines[0].startsWith("ViewHall hall = new ViewHall();") ? 1 : 0, 1);
        ViewHall hall = new ViewHall();
        int answers = 0;
        for (int i = 1; i < lines.length; i++) {
            Matcher call = CALL.matcher(lines[i]);
            due("line is a call: " + lines[i], call.matches() ? 1 : 0, 1);
            Object answer = invoke(hall, call.group(1), numbers(call.group(2)));
            if (call.group(3) != null) {
                answers++;
                due(lines[i], answer instanceof Integer ? (Integer) answer : Long.MIN_VALUE, Long.parseLong(call.group(3)));
            }
        }
        due("answers are told", answers > 5 ? 1 : 0, 1);
    }

    private static List<Integer> numbers(String text) {
        List<Integer> numbers = new ArrayList<>();
        for (String number : text.split(", *")) {
            if (!number.isEmpty()) {
                numbers.add(Integer.parseInt(number));
            }
        }
        return numbers;
    }

    private static Object invoke(ViewHall hall, String name, List<Integer> numbers) {
        for (Method method : ViewHall.class.getMethods()) {
            if (method.getName().equals(name) && method.getParameterCount() == numbers.size()) {
                try {
                    return method.invoke(hall, numbers.toArray());
                } catch (ReflectiveOperationException e) {
                    throw new IllegalStateException(e);
                }
            }
        }
        throw new IllegalStateException("no method " + name + " of " + numbers.size() + " numbers");
    }

    private static void callsAreNamed() {
        String text = readme();
        for (Method method : ViewHall.class.getDeclaredMethods()) {
            if (Modifier.isPublic(method.getModifiers())) {
                due(method.getName() + " is named", text.contains("`" + method.getName() + "`") ? 1 : 0, 1);
            }
        }
    }

    private static void testsAreNamed() {
        String text = readme();
        for (String file : Path.of("src/test/java").toFile().list()) {
            String name = file.replace(".java", "");
            due(name + " is named", text.contains("`" + name + "`") ? 1 : 0, 1);
        }
        Matcher named = Pattern.compile("`(\\w+Test)`").matcher(text);
        while (named.find()) {
            due(named.group(1) + " is there", Files.exists(Path.of("src/test/java", named.group(1) + ".java")) ? 1 : 0, 1);
        }
    }
}
