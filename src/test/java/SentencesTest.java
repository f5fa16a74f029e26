import java.io.IOException;
import java.lang.reflect.Method;
import java.nio.file.DirectoryStream;
import java.nio.file.Files;
import java.nio.file.Path;
import java.util.ArrayList;
import java.util.LinkedHashMap;
import java.util.List;
import java.util.Map;
import java.util.TreeMap;
import java.util.regex.Matcher;
import java.util.regex.Pattern;

/**
 * Holds the tests of boundary cases against the document: each of them quotes words that stand there, and
 * each clause that names a boundary case is quoted by one of them.
 */
public final class SentencesTest {
    private static final Path DOCUMENT = Path.of("../shared/DOC.md");
    private static final Path TESTS = Path.of("src/test/java");
    private static final Pattern PART =
        Pattern.compile("(?m)^(?:(An object)(?= is used)|## Promise (\\d+): .*|([A-Z]{5,})\\.(?= )|## .*)");
    private static final Pattern BOUNDARY = Pattern.compile("UNKNOWN|OUTSIDE|STATE|FULL|NONE|at most|up to"
        + "|\\b(\\d+|one|none|from \\d|below|about\\(0\\)|count\\(0\\)) to (\\d+|four|as many|the number|about|count)"
        + "|0 or more|[Ee]mpt|missing|more than|at least|wraps|modulo|nothing|stays|at first|[Ww]ithout|no board"
        + "|no terms|or all|lost|does not|do not|such a box|no moment|all but|greater than|less than"
        + "|how many|of several|from 0|no error|changes|replaced|since|Removes all|minus 1|lexicographic");
    private static final Checks CHECKS = new Checks();

    public static void main(String[] args) throws IOException {
        if (!Files.exists(DOCUMENT)) {
            System.out.println("SentencesTest: no document at " + DOCUMENT + ", nothing to look at");
            return;
        }
        Map<String, String> parts = parts(Files.readString(DOCUMENT));
        Map<String, List<String>> quotes = quotes();
        for (String part : quotes.keySet()) {
            for (String quote : quotes.get(part)) {
                CHECKS.isTrue("part " + part + " says: " + quote, plain(parts.getOrDefault(part, "")).contains(quote));
            }
        }
        for (String part : parts.keySet()) {
            for (String clause : clauses(parts.get(part))) {
                boolean named = BOUNDARY.matcher(clause).find();
                CHECKS.isTrue("part " + part + ", a test for: " + clause,
                    !named || isQuoted(clause, quotes.getOrDefault(part, List.of())));
            }
        }
        CHECKS.end("SentencesTest");
    }

    /** The text of each part that has promises, by the name that the tests give it. */
    private static Map<String, String> parts(String document) {
        Map<String, String> parts = new LinkedHashMap<>();
        Matcher head = PART.matcher(document);
        String name = null;
        int start = 0;
        while (head.find()) {
            if (name != null) {
                parts.put(name, document.substring(start, head.start()));
            }
            name = head.group(1) != null ? head.group(1) : head.group(2) != null ? head.group(2) : head.group(3);
            start = head.end();
        }
        return parts;
    }

    private static String plain(String text) {
        return text.replaceAll("(?m)^---- .*", "").replaceAll("(?m)^- ", "").replaceAll("\\s+", " ").trim();
    }

    private static List<String> clauses(String part) {
        List<String> clauses = new ArrayList<>();
        for (String paragraph : part.split("\n\n|\n(?=- )")) {
            for (String clause : plain(paragraph).split("(?<=[.;:]) ")) {
                clauses.add(clause);
            }
        }
        return clauses;
    }

    private static boolean isQuoted(String clause, List<String> quotes) {
        for (String quote : quotes) {
            if (quote.contains(clause) || clause.contains(quote)) {
                return true;
            }
        }
        return false;
    }

    private static Map<String, List<String>> quotes() throws IOException {
        Map<String, List<String>> quotes = new TreeMap<>();
        try (DirectoryStream<Path> files = Files.newDirectoryStream(TESTS, "Edges*Test.java")) {
            for (Path file : files) {
                for (Method test : Edges.testsOf(classOf(file))) {
                    String[] says = test.getAnnotation(Says.class).value().split(": ", 2);
                    quotes.computeIfAbsent(says[0], part -> new ArrayList<>()).add(says[1]);
                }
            }
        }
        return quotes;
    }

    private static Class<?> classOf(Path file) {
        try {
            return Class.forName(file.getFileName().toString().replace(".java", ""));
        } catch (ClassNotFoundException missing) {
            throw new IllegalStateException(missing);
        }
    }
}
