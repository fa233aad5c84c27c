import java.io.IOException;
import java.lang.reflect.Constructor;
import java.lang.reflect.Executable;
import java.lang.reflect.Field;
import java.lang.reflect.Method;
import java.lang.reflect.Modifier;
import java.nio.file.Files;
import java.nio.file.Path;
import java.util.ArrayList;
import java.util.List;
import java.util.Set;
import java.util.TreeSet;
import java.util.regex.Matcher;
import java.util.regex.Pattern;

/** The document's face, and the rules of LANGUAGE.md that a look at the class and its text can tell. */
public final class FaceTest {
    private static final String CONSTANT = "public static final int ";
    private static final Set<String> FACE = Set.of(
        CONSTANT + "NONE", CONSTANT + "UNKNOWN", CONSTANT + "OUTSIDE", CONSTANT + "STATE", CONSTANT + "FULL",
        "public HillWays()",
        "public int letter(int)", "public int blank()", "public int fault()", "public int way()",
        "public int valley()", "public int drop(int)", "public int exchange(int,boolean)",
        "public int tell(int,int,int)", "public int net(int,int)", "public int rank(int)", "public int top()",
        "public int link(int,int,int)", "public int contradicted(int)", "public int seen(int,int)",
        "public int near(int,int,int)", "public int count(int)", "public long digest()");
    private static final String[] FORBIDDEN = {
        "\\b(throw|throws|try|catch|finally|synchronized|assert|import|package|native|volatile)\\b",
        "->", "::", "\\bstatic\\s*\\{", "Exact\\b", "\\bwhile\\s*\\(\\s*true", "[^\\x01-\\x7f]"};
    // Of the library the class needs no more than these.
    private static final Set<String> LIBRARY = Set.of("Integer", "Math");
    private static final int MOST_CLASSES = 12, MOST_FIELDS = 20, MOST_PARAMETERS = 7, MOST_LINES = 60;
    private static int wrong = 0;

    private static void fail(String text) {
        wrong++;
        System.out.println(text);
    }

    public static void main(String[] args) throws IOException {
        String source = Files.readString(Path.of("src/main/java/HillWays.java"));
        checkFace();
        checkClasses();
        checkText(withoutComments(source));
        checkLengths(source);
        System.out.println(wrong == 0 ? "the face and the language are as due" : wrong + " faults");
        if (wrong != 0) {
            System.exit(1);
        }
    }

    // ---- rule 1

    private static void checkFace() {
        int modifiers = HillWays.class.getModifiers();
        if (!Modifier.isPublic(modifiers) || !Modifier.isFinal(modifiers)) {
            fail("the class is not public and final");
        }
        Set<String> open = new TreeSet<>();
        for (Field field : HillWays.class.getDeclaredFields()) {
            addOpen(open, field.getModifiers(), field.getType() + " " + field.getName());
        }
        for (Constructor<?> maker : HillWays.class.getDeclaredConstructors()) {
            addOpen(open, maker.getModifiers(), "HillWays" + parameters(maker));
        }
        for (Method method : HillWays.class.getDeclaredMethods()) {
            addOpen(open, method.getModifiers(), method.getReturnType() + " " + method.getName() + parameters(method));
        }
        if (!open.equals(new TreeSet<>(FACE))) {
            fail("the face is " + open);
        }
    }

    private static void addOpen(Set<String> open, int modifiers, String member) {
        if (!Modifier.isPrivate(modifiers)) {
            open.add((Modifier.toString(modifiers) + " " + member).trim());
        }
    }

    private static String parameters(Executable made) {
        StringBuilder text = new StringBuilder("(");
        for (Class<?> type : made.getParameterTypes()) {
            text.append(text.length() > 1 ? "," : "").append(type);
        }
        return text.append(")").toString();
    }

    private static void checkPrivateNames(Class<?> type) {
        for (Method method : type.getDeclaredMethods()) {
            boolean ofTheFace = FACE.stream().anyMatch(member -> member.contains(" " + method.getName() + "("));
            if (ofTheFace && Modifier.isPrivate(method.getModifiers())) {
                fail("a private method bears the name of a public one: " + method);
            }
        }
    }

    // ---- rules 2, 3, 5 and 11

    private static void checkClasses() {
        List<Class<?>> classes = new ArrayList<>(List.of(HillWays.class.getDeclaredClasses()));
        for (Class<?> inside : classes) {
            int modifiers = inside.getModifiers();
            if (!Modifier.isStatic(modifiers) || Modifier.isPublic(modifiers) || Modifier.isProtected(modifiers)) {
                fail("not static, or open to others: " + inside);
            }
        }
        classes.add(HillWays.class);
        if (classes.size() > MOST_CLASSES) {
            fail("too many classes: " + classes.size());
        }
        for (Class<?> type : classes) {
            checkPrivateNames(type);
            checkFields(type, classes);
            List<Executable> made = new ArrayList<>(List.of(type.getDeclaredMethods()));
            made.addAll(List.of(type.getDeclaredConstructors()));
            for (Executable one : made) {
                if (one.getParameterCount() > MOST_PARAMETERS) {
                    fail("too many parameters: " + one);
                }
            }
        }
    }

    private static void checkFields(Class<?> type, List<Class<?>> own) {
        int fields = 0;
        for (Field field : type.getDeclaredFields()) {
            Class<?> of = field.getType();
            boolean isPlain = of.isPrimitive() || of == String.class;
            boolean isRow = of.isArray() && of.getComponentType().isPrimitive();
            if (!isPlain && !isRow && !own.contains(of)) {
                fail("a field of another type: " + field);
            }
            if (!Modifier.isStatic(field.getModifiers())) {
                fields++;
            } else if (!Modifier.isFinal(field.getModifiers()) || !isPlain) {
                fail("a static field that is no constant: " + field);
            }
        }
        if (fields > MOST_FIELDS) {
            fail("too many fields: " + type);
        }
    }

    // ---- rules 4, 6, 9 and 11, by the text

    private static String withoutComments(String source) {
        return source.replaceAll("(?s)/\\*.*?\\*/", " ").replaceAll("//[^\n]*", " ");
    }

    private static void checkText(String text) {
        for (String pattern : FORBIDDEN) {
            Matcher found = Pattern.compile(pattern).matcher(text);
            if (found.find()) {
                fail("outside the language: " + found.group());
            }
        }
        Set<String> known = new TreeSet<>(LIBRARY);
        known.add("HillWays");
        for (Class<?> inside : HillWays.class.getDeclaredClasses()) {
            known.add(inside.getSimpleName());
        }
        Matcher name = Pattern.compile("\\b[A-Z]\\w*[a-z]\\w*").matcher(text);
        while (name.find()) {
            if (!known.contains(name.group())) {
                fail("outside the library: " + name.group());
            }
        }
    }

    private static void checkLengths(String source) {
        // A method's head, then all lines up to the first bracket that closes as far to the left as the head stands.
        String head = "^( +)[^\\n;=]*\\([^\\n;]*\\) \\{\\n";
        Matcher method = Pattern.compile("(?m)" + head + "((?:(?!\\1\\}\\n).*\\n)*)\\1\\}\\n").matcher(source);
        int found = 0;
        while (method.find()) {
            found++;
            if (method.group(2).split("\n").length > MOST_LINES) {
                fail("too many lines: " + method.group().split("\n")[0].trim());
            }
        }
        if (found < FACE.size()) {
            fail("only " + found + " methods were found in the text");
        }
    }
}
