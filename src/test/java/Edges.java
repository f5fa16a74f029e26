import java.lang.reflect.InvocationTargetException;
import java.lang.reflect.Method;
import java.util.ArrayList;
import java.util.Arrays;
import java.util.Comparator;
import java.util.List;
import java.util.function.Consumer;
import java.util.function.ToLongFunction;

/** Runs the tests of boundary cases, one method for each, and has what they need. */
final class Edges {
    static final int NONE = -1;
    static final int UNKNOWN = -101;
    static final int OUTSIDE = -102;
    static final int STATE = -103;
    static final int FULL = -104;
    static final int LOW = Integer.MIN_VALUE;
    static final int HIGH = Integer.MAX_VALUE;

    private static final Checks CHECKS = new Checks();
    private static String running = "";

    private Edges() {
    }

    /** The tests of a class, in the order of their names. */
    static List<Method> testsOf(Class<?> tests) {
        List<Method> found = new ArrayList<>();
        for (Method method : tests.getDeclaredMethods()) {
            if (method.isAnnotationPresent(Says.class)) {
                found.add(method);
            }
        }
        found.sort(Comparator.comparing(Method::getName));
        return found;
    }

    static void runAll(Class<?> tests) {
        for (Method test : testsOf(tests)) {
            run(test);
        }
        CHECKS.end(tests.getName());
    }

    private static void run(Method test) {
        running = test.getName();
        int before = CHECKS.compared();
        try {
            test.invoke(null);
        } catch (InvocationTargetException thrown) {
            isTrue("threw " + thrown.getCause(), false);
        } catch (IllegalAccessException hidden) {
            isTrue("cannot be called", false);
        }
        isTrue("looks at something", CHECKS.compared() > before);
    }

    static void due(String call, long got, long want) {
        CHECKS.due(running + ": " + call, got, want);
    }

    static void isTrue(String what, boolean holds) {
        CHECKS.isTrue(running + ": " + what, holds);
    }

    // ---- objects

    static void type(SkewBoard x, String text) {
        for (int k = 0; k < text.length(); k++) {
            x.letter(text.charAt(k));
        }
    }

    static void read(SkewBoard x, String text) {
        x.blank();
        type(x, text);
        isTrue("a board is read from " + text, x.board() >= 0);
    }

    /** A new object with the board of the text. */
    static SkewBoard with(String text) {
        SkewBoard x = new SkewBoard();
        read(x, text);
        return x;
    }

    /** A new object with the text on its page, and no board. */
    static SkewBoard page(String text) {
        SkewBoard x = new SkewBoard();
        type(x, text);
        return x;
    }

    // ---- what several tests ask

    static void boardIs(SkewBoard x, String want) {
        StringBuilder text = new StringBuilder();
        for (int place = 0; place < 20 && x.text(place) != UNKNOWN; place++) {
            text.append((char) x.text(place));
        }
        isTrue("the board " + text + " is " + want, text.toString().equals(want));
    }

    static void accepted(String text, int boxes) {
        due("board() of '" + text + "'", page(text).board(), boxes);
    }

    static void notAccepted(String text) {
        due("board() of '" + text + "'", page(text).board(), STATE);
    }

    static void fillings(String text, int want) {
        due("fillings of " + text, with(text).about(4), want);
    }

    /** What filling() answers for digits on the page of a board. */
    static void filling(String text, String digits, int want) {
        SkewBoard x = with(text);
        type(x, digits);
        due("filling " + digits + " of " + text, x.filling(), want);
    }

    // ---- calls that are refused

    /**
     * A call that returns an error changes nothing: of two objects with the same calls behind them one
     * gets the call too, and whatever is asked then, both answer the same.
     */
    static void refused(Consumer<SkewBoard> before, String name, ToLongFunction<SkewBoard> call, int error) {
        for (int question = 0; question < QUESTIONS.size(); question++) {
            SkewBoard x = new SkewBoard();
            SkewBoard spared = new SkewBoard();
            before.accept(x);
            before.accept(spared);
            due(name, call.applyAsLong(x), error);
            long[] got = QUESTIONS.get(question).apply(x);
            long[] want = QUESTIONS.get(question).apply(spared);
            isTrue(name + " changes nothing (" + question + "): " + Arrays.toString(got) + " is "
                + Arrays.toString(want), Arrays.equals(got, want));
        }
    }

    /** A state with a bit of everything: six boxes, a page, observations, another board saved. */
    static void full(SkewBoard x) {
        read(x, "c321/:321");
        x.see(0, true);
        x.image();
        x.see(3, true);
        x.be(0);
        x.grow(0, true);
        x.cut(0, 1);
        type(x, "l2/:11");
    }

    private interface Question {
        long[] apply(SkewBoard x);
    }

    private static final List<Question> QUESTIONS = List.of(
        Edges::look, Edges::typeOn, Edges::seeOn, Edges::readBoard, Edges::readFilling, Edges::goBack);

    private static long[] look(SkewBoard x) {
        List<Long> answers = new ArrayList<>();
        answers.add(x.digest());
        answers.add((long) x.fault());
        for (int k = 0; k < 16; k++) {
            answers.add((long) x.text(k));
        }
        for (int k = 0; k < 9; k++) {
            answers.add((long) x.box(k, 0));
            answers.add((long) x.box(k, 1));
            answers.add((long) x.way(x.about(4) - 1, k));
        }
        for (int k = 0; k < 5; k++) {
            answers.add((long) x.row(k, 0));
            answers.add((long) x.row(k, 1));
            answers.add((long) x.content(k));
            answers.add((long) x.as(k));
        }
        answers.add((long) x.drawn(9, 9, 0));
        return answers.stream().mapToLong(Long::longValue).toArray();
    }

    private static long[] typeOn(SkewBoard x) {
        long[] answers = new long[23];
        for (int k = 0; k < 21; k++) {
            answers[k] = x.letter('1');
        }
        answers[21] = x.digest();
        answers[22] = x.blank();
        return answers;
    }

    private static long[] seeOn(SkewBoard x) {
        long[] answers = new long[22];
        for (int k = 0; k < 7; k++) {
            answers[3 * k] = x.see(k % 2, true);
            answers[3 * k + 1] = x.sorts(0);
            answers[3 * k + 2] = x.sorts(1);
        }
        answers[21] = x.forget();
        return answers;
    }

    private static long[] readBoard(SkewBoard x) {
        return new long[] {x.board(), x.digest(), x.restore(), x.digest()};
    }

    private static long[] readFilling(SkewBoard x) {
        return new long[] {x.filling(), x.digest()};
    }

    private static long[] goBack(SkewBoard x) {
        return new long[] {x.restore(), x.digest(), x.forget(), x.grow(0, true), x.restore(), x.digest()};
    }
}
