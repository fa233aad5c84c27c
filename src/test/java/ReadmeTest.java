import java.io.File;
import java.io.IOException;
import java.lang.reflect.Method;
import java.lang.reflect.Modifier;
import java.nio.file.Files;
import java.nio.file.Path;
import java.util.regex.Matcher;
import java.util.regex.Pattern;

/** README.md holds what it says: its example answers as written there, and it names each call and each test. */
public final class ReadmeTest {
    private static final Pattern EXAMPLE = Pattern.compile("(?s)```java\n(.*?)```");
    private static final Pattern CALL = Pattern.compile("x\\.(\\w+)\\((.*?)\\); +// (-?\\d+)(:.*)?");
    private static int wrong = 0;

    private static void fail(String text) {
        wrong++;
        System.out.println(text);
    }

    public static void main(String[] args) throws IOException, ReflectiveOperationException {
        String page = Files.readString(Path.of("README.md"));
        checkExample(page);
        checkCalls(page);
        checkTests(page);
        System.out.println(wrong == 0 ? "the page holds" : wrong + " faults of the page");
        if (wrong != 0) {
            System.exit(1);
        }
    }

    private static void checkExample(String page) throws ReflectiveOperationException {
        Matcher example = EXAMPLE.matcher(page);
        if (!example.find()) {
            fail("there is no example");
            return;
        }
        HillWays x = new HillWays();
        for (String line : example.group(1).split("\n")) {
            Matcher call = CALL.matcher(line);
            if (call.matches()) {
                long got = answer(x, call.group(1), call.group(2));
                if (got != Long.parseLong(call.group(3))) {
                    fail(line.trim() + " answered " + got);
                }
            } else if (!line.equals("HillWays x = new HillWays();")) {
                fail("this line of the example is not understood: " + line);
            }
        }
    }

    private static long answer(HillWays x, String name, String arguments) throws ReflectiveOperationException {
        String[] texts = arguments.isEmpty() ? new String[0] : arguments.split(", ");
        Object[] values = new Object[texts.length];
        for (int i = 0; i < texts.length; i++) {
            values[i] = value(texts[i]);
        }
        for (Method method : HillWays.class.getMethods()) {
            if (method.getName().equals(name)) {
                return ((Number) method.invoke(x, values)).longValue();
            }
        }
        throw new NoSuchMethodException(name);
    }

    private static Object value(String text) {
        if (text.startsWith("'")) {
            return (int) text.charAt(1);
        }
        if (text.equals("true") || text.equals("false")) {
            return text.equals("true");
        }
        return Integer.valueOf(text);
    }

    private static void checkCalls(String page) {
        for (Method method : HillWays.class.getDeclaredMethods()) {
            if (Modifier.isPublic(method.getModifiers()) && !page.contains("| `" + method.getName() + "(")) {
                fail("the page does not name " + method.getName());
            }
        }
    }

    private static void checkTests(String page) {
        File[] tests = new File("src/test/java").listFiles();
        if (tests == null || tests.length == 0) {
            fail("there are no tests");
            return;
        }
        for (File test : tests) {
            if (!page.contains("- `" + test.getName().replace(".java", "") + "`: ")) {
                fail("the page does not name " + test.getName());
            }
        }
    }
}
