import java.io.IOException;
import java.lang.reflect.Constructor;
import java.lang.reflect.Field;
import java.lang.reflect.Method;
import java.lang.reflect.Modifier;
import java.nio.file.Files;
import java.nio.file.Path;
import java.util.Set;
import java.util.TreeSet;
import java.util.regex.Matcher;
import java.util.regex.Pattern;

/** The document's face, and the rules of LANGUAGE.md that a look at the class and its text can tell. */
public final class FaceTest {
    private static final Set<String> FACE = Set.of(
        "int NONE", "int UNKNOWN", "int OUTSIDE", "int STATE", "int FULL",
        "HillWays()",
        "int letter(int)", "int blank()", "int fault()", "int way()", "int valley()",
        "int drop(int)", "int exchange(int,boolean)", "int tell(int,int,int)",
        "int net(int,int)", "int rank(int)", "int top()",
        "int link(int,int,int)", "int contradicted(int)", "int seen(int,int)", "int near(int,int,int)",
        "int count(int)", "long digest()");
    private static final String[] FORBIDDEN = {
        "\\b(throw|throws|try|catch|finally|synchronized|assert|import|package|native|volatile)\\b",
        "->", "::", "\\bstatic\\s*\\{", "\\b(Object|Exception|System|Thread|Exact)\\b", "\\bwhile\\s*\\(\\s*true",
        "[^\\x01-\\x7f]"};
    private static int wrong = 0;

    private static void fail(String text) {
        wrong++;
        System.out.println(text);
    }

    public static void main(String[] args) throws IOException {
        checkFace();
        checkNested();
        checkText(Files.readString(Path.of("src/main/java/HillWays.java")));
        System.out.println(wrong == 0 ? "the face and the language are as due" : wrong + " faults");
        if (wrong != 0) {
            System.exit(1);
        }
    }

    private static void checkFace() {
        int modifiers = HillWays.class.getModifiers();
        if (!Modifier.isPublic(modifiers) || !Modifier.isFinal(modifiers)) {
            fail("the class is not public and final");
        }
        Set<String> open = new TreeSet<>();
        Set<String> openNames = new TreeSet<>();
        for (Field field : HillWays.class.getDeclaredFields()) {
            if (!Modifier.isPrivate(field.getModifiers())) {
                open.add(field.getType() + " " + field.getName());
            }
            checkStatic(field);
        }
        for (Constructor<?> maker : HillWays.class.getDeclaredConstructors()) {
            open.add("HillWays" + parameters(maker.getParameterTypes()));
        }
        for (Method method : HillWays.class.getDeclaredMethods()) {
            if (!Modifier.isPrivate(method.getModifiers())) {
                open.add(method.getReturnType() + " " + method.getName() + parameters(method.getParameterTypes()));
                openNames.add(method.getName());
            }
        }
        if (!open.equals(new TreeSet<>(FACE))) {
            fail("the face is " + open);
        }
        for (Method method : HillWays.class.getDeclaredMethods()) {
            if (Modifier.isPrivate(method.getModifiers()) && openNames.contains(method.getName())) {
                fail("a private method bears the name " + method.getName());
            }
        }
    }

    private static String parameters(Class<?>[] types) {
        StringBuilder text = new StringBuilder("(");
        for (Class<?> type : types) {
            text.append(text.length() > 1 ? "," : "").append(type);
        }
        return text.append(")").toString();
    }

    private static void checkStatic(Field field) {
        if (Modifier.isStatic(field.getModifiers()) && !Modifier.isFinal(field.getModifiers())) {
            fail("a static field is not final: " + field);
        }
    }

    private static void checkNested() {
        Class<?>[] nested = HillWays.class.getDeclaredClasses();
        if (nested.length > 11) {
            fail("too many classes: " + nested.length);
        }
        for (Class<?> inside : nested) {
            if (!Modifier.isStatic(inside.getModifiers()) || Modifier.isPublic(inside.getModifiers())) {
                fail("not static, or public: " + inside);
            }
            for (Field field : inside.getDeclaredFields()) {
                checkStatic(field);
            }
        }
    }

    private static void checkText(String source) {
        String text = source.replaceAll("(?s)/\\*.*?\\*/", " ").replaceAll("//[^\n]*", " ");
        for (String pattern : FORBIDDEN) {
            Matcher found = Pattern.compile(pattern).matcher(text);
            if (found.find()) {
                fail("outside the language: " + found.group());
            }
        }
    }
}
