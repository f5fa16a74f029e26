import java.io.IOException;
import java.lang.reflect.Method;
import java.lang.reflect.Modifier;
import java.nio.file.DirectoryStream;
import java.nio.file.Files;
import java.nio.file.Path;
import java.util.HashSet;
import java.util.Set;
import java.util.regex.Matcher;
import java.util.regex.Pattern;

/** Does the calls of README.md in their order, compares the answers, and finds what README.md leaves out. */
public final class ReadmeTest {
    private static final Path README = Path.of("README.md");
    private static final Path TESTS = Path.of("src/test/java");
    private static final Pattern TYPED = Pattern.compile("^ {4}type\\(x, \"(.*)\"\\);$");
    private static final Pattern CALL = Pattern.compile("^ {4}x\\.(\\w+)\\((.*)\\); +// (-?\\w+)(:.*)?$");
    private static final Checks CHECKS = new Checks();

    private final SkewBoard x = new SkewBoard();
    private final Set<String> called = new HashSet<>();

    public static void main(String[] args) throws IOException {
        String text = Files.readString(README);
        ReadmeTest test = new ReadmeTest();
        for (String line : text.split("\n")) {
            test.read(line);
        }
        for (Method method : SkewBoard.class.getMethods()) {
            if (method.getDeclaringClass() == SkewBoard.class) {
                CHECKS.isTrue(method.getName() + " is shown", test.called.contains(method.getName()));
            }
        }
        CHECKS.isTrue("how to run the tests", text.contains("\n    .ci/run\n"));
        testsAreNamed(text);
        CHECKS.end("ReadmeTest");
    }

    private static void testsAreNamed(String text) throws IOException {
        try (DirectoryStream<Path> files = Files.newDirectoryStream(TESTS, "*Test.java")) {
            for (Path file : files) {
                String name = file.getFileName().toString().replace(".java", "");
                String row = name.startsWith("EdgesOf") ? "EdgesOf...Test" : name;
                CHECKS.isTrue(name + " is in the table", text.contains("\n| `" + row + "` |"));
            }
        }
    }

    private void read(String line) {
        Matcher typed = TYPED.matcher(line);
        Matcher call = CALL.matcher(line);
        if (typed.find()) {
            for (char sign : typed.group(1).toCharArray()) {
                x.letter(sign);
            }
        } else if (call.find()) {
            called.add(call.group(1));
            CHECKS.due(line.trim(), answer(call.group(1), call.group(2)), number(call.group(3)));
        } else {
            CHECKS.isTrue("understood: " + line, !line.matches("^ {4}(x\\.|type).*"));
        }
    }

    private long answer(String name, String arguments) {
        String[] parts = arguments.isEmpty() ? new String[0] : arguments.split(", ");
        for (Method method : SkewBoard.class.getDeclaredMethods()) {
            boolean open = Modifier.isPublic(method.getModifiers());
            if (open && method.getName().equals(name) && method.getParameterCount() == parts.length) {
                return invoked(method, parts);
            }
        }
        throw new IllegalStateException("no method " + name + " of " + parts.length);
    }

    private long invoked(Method method, String[] parts) {
        Object[] values = new Object[parts.length];
        for (int k = 0; k < parts.length; k++) {
            values[k] = method.getParameterTypes()[k] == boolean.class ? (Object) Boolean.valueOf(parts[k])
                : (Object) (int) number(parts[k]);
        }
        try {
            return ((Number) method.invoke(x, values)).longValue();
        } catch (ReflectiveOperationException failed) {
            throw new IllegalStateException(failed);
        }
    }

    /** A number, a character between quotes, or a constant of the class. */
    private static long number(String text) {
        switch (text) {
            case "NONE":
                return SkewBoard.NONE;
            case "UNKNOWN":
                return SkewBoard.UNKNOWN;
            case "OUTSIDE":
                return SkewBoard.OUTSIDE;
            case "STATE":
                return SkewBoard.STATE;
            case "FULL":
                return SkewBoard.FULL;
            default:
                return text.startsWith("'") ? text.charAt(1) : Long.parseLong(text);
        }
    }
}
