/** Compares answers with those that are due, and ends a test. */
final class Checks {
    private static final int MOST_PRINTED = 40;
    private int compared = 0;
    private int wrong = 0;

    void due(String call, long got, long want) {
        compared++;
        if (got != want) {
            wrong++;
            if (wrong <= MOST_PRINTED) {
                System.out.println(call + " answered " + got + ", due is " + want);
            }
        }
    }

    void isTrue(String what, boolean holds) {
        due(what, holds ? 1 : 0, 1);
    }

    int compared() {
        return compared;
    }

    boolean allRight() {
        return wrong == 0;
    }

    void end(String test) {
        System.out.println(test + ": " + compared + " answers, " + wrong + " wrong");
        if (wrong != 0 || compared == 0) {
            System.exit(1);
        }
    }
}
