import java.io.IOException;
import java.lang.reflect.Constructor;
import java.lang.reflect.Field;
import java.lang.reflect.Method;
import java.lang.reflect.Modifier;
import java.nio.file.Files;
import java.nio.file.Path;
import java.util.Arrays;
import java.util.HashSet;
import java.util.Set;
import java.util.TreeSet;
import java.util.regex.Matcher;
import java.util.regex.Pattern;

/** The public face of the document, and rules of LANGUAGE.md that can be told from class and source. */
public final class FaceTest {
    private static final Path SOURCE = Path.of("src/main/java/SkewBoard.java");
    private static final String[] FACE = {
        "int letter(int)", "int blank()", "int fault()", "int board()", "int filling()", "int text(int)",
        "int about(int)", "int as(int)", "int row(int, int)", "int content(int)", "int box(int, int)",
        "int be(int)", "int grow(int, boolean)", "int cut(int, int)", "int give(int, int)",
        "int way(int, int)", "int hive(int, int, int)", "int terms()", "int term(int, int)",
        "int see(int, boolean)", "int forget()", "int sorts(int)", "int drawn(int, int, int)",
        "int image()", "int restore()", "int count(int)", "long digest()",
    };
    private static final String[] CONSTANTS = {"NONE", "UNKNOWN", "OUTSIDE", "STATE", "FULL"};
    private static final String[] NOT_ALLOWED = {
        "\\b(throw|throws|try|catch|synchronized|assert|package|Object|System\\.(?!arraycopy))\\b", "->", "::",
        "Exact\\b", "\\b(equals|hashCode|toString)\\(", "\\bstatic \\{", "while \\(true\\)", "for \\(;;\\)",
        "import (?!java\\.util\\.Arrays;)",
    };
    private static final int MOST_LINES = 60;
    private static final Checks CHECKS = new Checks();

    public static void main(String[] args) throws IOException {
        members();
        nestedClasses();
        source(Files.readString(SOURCE));
        CHECKS.end("FaceTest");
    }

    private static String signature(Method method) {
        StringBuilder text = new StringBuilder(method.getReturnType().getName());
        text.append(' ').append(method.getName()).append('(');
        for (int k = 0; k < method.getParameterCount(); k++) {
            text.append(k == 0 ? "" : ", ").append(method.getParameterTypes()[k].getName());
        }
        return text.append(')').toString();
    }

    private static void members() {
        CHECKS.isTrue("the class is public and final",
            SkewBoard.class.getModifiers() == (Modifier.PUBLIC | Modifier.FINAL));
        Set<String> open = new TreeSet<>();
        Set<String> names = new HashSet<>();
        for (Method method : SkewBoard.class.getDeclaredMethods()) {
            if (Modifier.isPrivate(method.getModifiers()) || method.isSynthetic()) {
                continue;
            }
            CHECKS.isTrue(method + " is public, no more", method.getModifiers() == Modifier.PUBLIC);
            open.add(signature(method));
            names.add(method.getName());
        }
        Set<String> face = new TreeSet<>(Arrays.asList(FACE));
        CHECKS.isTrue("methods " + open + " are " + face, open.equals(face));
        for (Method method : SkewBoard.class.getDeclaredMethods()) {
            boolean hidden = Modifier.isPrivate(method.getModifiers());
            CHECKS.isTrue(method + " has a name of its own", !hidden || !names.contains(method.getName()));
        }
        Constructor<?>[] constructors = SkewBoard.class.getDeclaredConstructors();
        CHECKS.isTrue("one public constructor without parameters", constructors.length == 1
            && constructors[0].getParameterCount() == 0 && Modifier.isPublic(constructors[0].getModifiers()));
        fields(SkewBoard.class, new HashSet<>(Arrays.asList(CONSTANTS)));
    }

    private static void fields(Class<?> of, Set<String> open) {
        int own = 0;
        for (Field field : of.getDeclaredFields()) {
            boolean isStatic = Modifier.isStatic(field.getModifiers());
            own += isStatic ? 0 : 1;
            CHECKS.isTrue(field + " is final if static", !isStatic || Modifier.isFinal(field.getModifiers()));
            if (of == SkewBoard.class) {
                CHECKS.isTrue(field + " is public or private as due",
                    open.contains(field.getName()) ? Modifier.isPublic(field.getModifiers())
                        : Modifier.isPrivate(field.getModifiers()));
            }
        }
        CHECKS.isTrue(of + " has few fields", own <= 20);
    }

    private static void nestedClasses() {
        Class<?>[] nested = SkewBoard.class.getDeclaredClasses();
        CHECKS.isTrue("few classes", nested.length <= 11);
        for (Class<?> one : nested) {
            int modifiers = one.getModifiers();
            CHECKS.isTrue(one + " is static", Modifier.isStatic(modifiers));
            CHECKS.isTrue(one + " is not open", !Modifier.isPublic(modifiers) && !Modifier.isProtected(modifiers));
            fields(one, Set.of());
        }
    }

    private static void source(String text) {
        String code = text.replaceAll("(?s)/\\*.*?\\*/", "").replaceAll("//[^\n]*", "");
        for (String pattern : NOT_ALLOWED) {
            Matcher matcher = Pattern.compile(pattern).matcher(code);
            boolean found = matcher.find();
            CHECKS.isTrue("no " + pattern + " in the source" + (found ? ": " + matcher.group() : ""), !found);
        }
        CHECKS.isTrue("signs 1 to 127 alone", text.chars().allMatch(sign -> sign >= 1 && sign <= 127));
        methodLengths(text.split("\n", -1));
    }

    /** A method begins with a line that ends in ") {" and ends with a brace at the same indent. */
    private static void methodLengths(String[] lines) {
        Pattern head = Pattern.compile("^( {4}| {8})(public|private|static|final|boolean|int|long|void)\\b.*\\) \\{$");
        for (int at = 0; at < lines.length; at++) {
            Matcher matcher = head.matcher(lines[at]);
            if (!matcher.find()) {
                continue;
            }
            int end = at;
            while (end < lines.length && !lines[end].equals(matcher.group(1) + "}")) {
                end++;
            }
            CHECKS.isTrue("short: " + lines[at].trim(), end - at < MOST_LINES);
            CHECKS.isTrue("at most seven parameters: " + lines[at].trim(), lines[at].split(",").length <= 7);
        }
    }
}
