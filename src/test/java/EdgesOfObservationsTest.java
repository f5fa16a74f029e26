/** The paragraph OBSERVATIONS, and the promises 21 to 24. */
public final class EdgesOfObservationsTest {
    private static final int PLAIN = 1;
    private static final int COLUMNS = 2;
    private static final int LATTICE = 4;
    private static final int STRICT = 8;
    private static final int TURNED = 16;
    private static final int ALL = 31;

    public static void main(String[] args) {
        Edges.runAll(EdgesOfObservationsTest.class);
    }

    private static void canBeWith(int what, int kinds) {
        SkewBoard x = Edges.with("f1/:1");
        x.see(what, true);
        Edges.due(what + " can be", x.sorts(0), kinds);
        x.forget();
        x.see(what, false);
        Edges.due(what + " cannot be", x.sorts(0), ALL - kinds);
    }

    /** Observations as a text: the number of what is seen, with a minus behind it if it cannot be. */
    private static void question(String seen, int kinds, int question) {
        SkewBoard x = Edges.with("f1/:1");
        for (int k = 0; k < seen.length(); k++) {
            if (seen.charAt(k) != '-') {
                boolean can = k + 1 == seen.length() || seen.charAt(k + 1) != '-';
                x.see(seen.charAt(k) - '0', can);
            }
        }
        Edges.due("sorts(0) behind '" + seen + "'", x.sorts(0), kinds);
        Edges.due("sorts(1) behind '" + seen + "'", x.sorts(1), question);
    }

    private static SkewBoard withSix() {
        SkewBoard x = Edges.with("f1/:1");
        six(x);
        return x;
    }

    private static void six(SkewBoard x) {
        for (int k = 0; k < 6; k++) {
            x.see(0, true);
        }
    }

    // ---- OBSERVATIONS

    @Says("OBSERVATIONS: There are up to six observations about an unknown rule.")
    static void sixObservationsAndSeven() {
        SkewBoard x = withSix();
        Edges.due("count(5)", x.count(5), 6);
        Edges.due("see 7", x.see(0, true), Edges.FULL);
    }

    @Says("OBSERVATIONS: There are up to six observations about an unknown rule.")
    static void theRuleOfTheBoardDoesNotMatter() {
        for (char rule : "fclst".toCharArray()) {
            SkewBoard x = Edges.with(rule + "1/:1");
            Edges.due("sorts(0) of " + rule, x.sorts(0), ALL);
            x.see(2, true);
            Edges.due("sorts(0) of " + rule, x.sorts(0), TURNED);
        }
    }

    @Says("OBSERVATIONS: 0 all but strict;")
    static void equalNumbersNextToEachOther() {
        canBeWith(0, PLAIN + COLUMNS + LATTICE + TURNED);
    }

    @Says("OBSERVATIONS: 1 plain and strict;")
    static void equalNumbersBelowEachOther() {
        canBeWith(1, PLAIN + STRICT);
    }

    @Says("OBSERVATIONS: 2 turned;")
    static void aSmallerNumberNextToOne() {
        canBeWith(2, TURNED);
    }

    @Says("OBSERVATIONS: 3 all but lattice.")
    static void aNumberAboveOneInTheLastBox() {
        canBeWith(3, PLAIN + COLUMNS + STRICT + TURNED);
    }

    // ---- 21

    @Says("21: Returns how many observations there are then;")
    static void theFirstAndTheLastObservation() {
        SkewBoard x = Edges.with("f1/:1");
        for (int k = 1; k <= 6; k++) {
            Edges.due("see " + k, x.see(k % 4, k % 2 == 0), k);
        }
    }

    @Says("21: Returns how many observations there are then;")
    static void theSameObservationCountsAgain() {
        SkewBoard x = Edges.with("f1/:1");
        x.see(1, true);
        Edges.due("the same again", x.see(1, true), 2);
        Edges.due("the contrary", x.see(1, false), 3);
        Edges.due("sorts(0)", x.sorts(0), 0);
    }

    @Says("21: what can be or cannot be, 0 to 3")
    static void theFirstAndTheLastThingToSee() {
        SkewBoard x = Edges.with("f1/:1");
        Edges.due("see(0, true)", x.see(0, true), 1);
        Edges.due("see(3, true)", x.see(3, true), 2);
    }

    @Says("21: OUTSIDE if what is out of range;")
    static void seeBesideZeroToThree() {
        for (int what : new int[] {-1, 4, Edges.LOW, Edges.HIGH}) {
            Edges.refused(Edges::full, "see(" + what + ", true)", x -> x.see(what, true), Edges.OUTSIDE);
            Edges.refused(Edges::full, "see(" + what + ", false)", x -> x.see(what, false), Edges.OUTSIDE);
        }
    }

    @Says("21: STATE if there is no board;")
    static void seeWithoutABoard() {
        for (int what = 0; what < 4; what++) {
            int one = what;
            Edges.refused(x -> { }, "see(" + what + ", true)", x -> x.see(one, true), Edges.STATE);
        }
    }

    @Says("21: FULL if there are six observations.")
    static void theSeventhObservation() {
        SkewBoard x = withSix();
        Edges.due("see 7", x.see(2, true), Edges.FULL);
        Edges.due("see 7 again", x.see(0, true), Edges.FULL);
        x.forget();
        Edges.due("see after forget()", x.see(2, true), 1);
    }

    @Says("21: FULL if there are six observations.")
    static void theSeventhObservationChangesNothing() {
        Edges.refused(EdgesOfObservationsTest::sixOnABoard, "see(2, true)", x -> x.see(2, true), Edges.FULL);
        Edges.refused(EdgesOfObservationsTest::sixOnABoard, "see(0, false)", x -> x.see(0, false), Edges.FULL);
    }

    private static void sixOnABoard(SkewBoard x) {
        Edges.full(x);
        x.forget();
        six(x);
    }

    // ---- 22

    @Says("22: Returns how many there were.")
    static void forgetNoneAndSix() {
        Edges.due("none", Edges.with("f1/:1").forget(), 0);
        SkewBoard x = withSix();
        Edges.due("six", x.forget(), 6);
        Edges.due("again", x.forget(), 0);
    }

    @Says("22: Returns how many there were.")
    static void forgetWithoutABoard() {
        Edges.due("forget()", new SkewBoard().forget(), 0);
    }

    @Says("22: Removes all observations.")
    static void noObservationsAfterForget() {
        SkewBoard x = Edges.with("f1/:1");
        x.see(2, true);
        x.see(2, false);
        x.forget();
        Edges.due("count(5)", x.count(5), 0);
        Edges.due("sorts(0)", x.sorts(0), ALL);
        Edges.due("sorts(1)", x.sorts(1), 1);
    }

    @Says("22: Removes all observations.")
    static void whatIsSavedIsNotForgotten() {
        SkewBoard x = withSix();
        x.image();
        x.forget();
        x.restore();
        Edges.due("count(5)", x.count(5), 6);
    }

    // ---- 23

    @Says("23: Returns the kinds of rules that agree with all observations,")
    static void allKindsAgreeWithNoObservations() {
        question("", ALL, 1);
        Edges.due("sorts(0) without a board", new SkewBoard().sorts(0), ALL);
        Edges.due("sorts(1) without a board", new SkewBoard().sorts(1), 1);
    }

    @Says("23: Returns the kinds of rules that agree with all observations,")
    static void oneKindAgrees() {
        question("01", PLAIN, 0);
        question("1-2-3", COLUMNS, 0);
        question("3-", LATTICE, 0);
        question("0-", STRICT, 0);
        question("2", TURNED, 0);
    }

    @Says("23: what to ask (0 to 3) such that the greater one of the numbers of these kinds")
    static void theBestQuestionAlone() {
        question("2-", PLAIN + COLUMNS + LATTICE + STRICT, 1);
        question("1-3", COLUMNS + TURNED, 2);
    }

    @Says("23: what to ask (0 to 3) such that the greater one of the numbers of these kinds")
    static void theFirstAndTheLastQuestion() {
        question("1", PLAIN + STRICT, 0);
        question("0", PLAIN + COLUMNS + LATTICE + TURNED, 1);
        question("1-", COLUMNS + LATTICE + TURNED, 2);
        question("1-2-", COLUMNS + LATTICE, 3);
    }

    @Says("23: of several the lowest.")
    static void theLowestOfSeveralQuestions() {
        // as good as the answer: 3; 3; 2; 1 and 2 and 3
        question("1-", COLUMNS + LATTICE + TURNED, 2);
        question("02-", PLAIN + COLUMNS + LATTICE, 1);
        question("03", PLAIN + COLUMNS + TURNED, 1);
        question("2", TURNED, 0);
    }

    @Says("23: Returns the set, or the question, or NONE if there is no such kind;")
    static void noKindAgrees() {
        question("00-", 0, Edges.NONE);
        question("3-2", 0, Edges.NONE);
        question("0-1-", 0, Edges.NONE);
    }

    @Says("23: Returns the set, or the question, or NONE if there is no such kind;")
    static void sortsChangesNothing() {
        Edges.refused(Edges::full, "sorts(0)", x -> x.sorts(0), PLAIN + COLUMNS + TURNED);
        Edges.refused(Edges::full, "sorts(1)", x -> x.sorts(1), 1);
    }

    @Says("23: OUTSIDE if what is not 0 or 1.")
    static void sortsBesideZeroAndOne() {
        for (int what : new int[] {-1, 2, Edges.LOW, Edges.HIGH}) {
            Edges.due("sorts(" + what + ")", Edges.with("f1/:1").sorts(what), Edges.OUTSIDE);
            Edges.due("sorts(" + what + ") without a board", new SkewBoard().sorts(what), Edges.OUTSIDE);
        }
    }

    // ---- 24

    @Says("24: nothing is changed by this.")
    static void drawnChangesNothing() {
        // six hundred draws
        Edges.refused(Edges::full, "drawn(100, 7, 2)", x -> x.drawn(100, 7, 2), 1185767855);
        SkewBoard x = Edges.with("f2/:11");
        Edges.due("drawn(9, 9, 0)", x.drawn(9, 9, 0), x.drawn(9, 9, 0));
        Edges.due("way(0, 1)", x.way(0, 1), 2);
    }

    @Says("24: Each box, in order, gets 1 plus a draw.")
    static void theNumbersOfTheDraws() {
        // z behind the seed is 65535, 65536, 131072 and 196608: the draws are 0, 1, 2 and 3
        int[] seeds = {2032319262, 1742513795, 1396811395, 1051108995};
        String[] texts = {"f1/:1", "f1/:01", "f1/:001", "f1/:0001"};
        for (int number = 0; number < 4; number++) {
            for (int other = 0; other < 4; other++) {
                Edges.due("the number of seed " + seeds[number], Edges.with(texts[other]).drawn(1, seeds[number], 1),
                    number == other ? 1 : 0);
            }
        }
    }

    @Says("24: Each box, in order, gets 1 plus a draw.")
    static void boxesAreDrawnInOrder() {
        // behind seed 1 the numbers 3 3 2 4 4 4 are drawn
        Edges.due("3 3 2 in a column", Edges.with("f111/:012").drawn(1, 1, 1), 1);
        Edges.due("3, 3 2 are plain", Edges.with("f21/:012").drawn(1, 1, 0), 1);
        Edges.due("3 3 2 are not plain", Edges.with("f3/:012").drawn(1, 1, 0), 0);
        Edges.due("3 3 and 2 4", Edges.with("f22/:0121").drawn(1, 1, 1), 1);
    }

    @Says("24: Each box, in order, gets 1 plus a draw.")
    static void boardsWithoutBoxesDrawNothing() {
        SkewBoard x = Edges.with("l5/5:0");
        Edges.due("z", x.drawn(100, 77, 2), 77);
        Edges.due("they satisfy the rule", x.drawn(100, 77, 0), 100);
        Edges.due("they are proper", x.drawn(100, 77, 1), 100);
        Edges.due("they are not", Edges.with("l5/5:1").drawn(100, 77, 1), 0);
    }

    @Says("24: z, which is the random seed at first,")
    static void zGoesOnFromFillingToFilling() {
        SkewBoard one = Edges.with("f1/:1");
        SkewBoard two = Edges.with("f2/:1");
        int first = one.drawn(1, 1, 2);
        Edges.due("two fillings", one.drawn(2, 1, 2), one.drawn(1, first, 2));
        Edges.due("two boxes", two.drawn(1, 1, 2), one.drawn(2, 1, 2));
        Edges.due("each call has its own seed", one.drawn(1, 1, 2), first);
    }

    @Says("24: becomes (1103515245 * z + 12345) modulo 2 to the power of 31,")
    static void zWrapsAround() {
        SkewBoard x = Edges.with("f1/:1");
        Edges.due("1 does not wrap", x.drawn(1, 1, 2), 1103527590);
        Edges.due("2 wraps", x.drawn(1, 2, 2), 2207042835L - 2147483648L);
        Edges.due("to 0", x.drawn(1, 2088216195, 2), 0);
        Edges.due("to the greatest", x.drawn(1, 230538014, 2), Edges.HIGH);
        Edges.due("from 0", x.drawn(1, 0, 2), 12345);
        Edges.due("from the greatest", x.drawn(1, Edges.HIGH, 2), 2147483648L + 12345 - 1103515245);
    }

    @Says("24: and the draw is (z / 65536, rounded down) modulo 4.")
    static void drawsWrapAroundAndAreRoundedDown() {
        // z behind the seed is 131071, 196607, 262143, 262144, 2147418111 and 2147483647
        int[] seeds = {1686616862, 1340914462, 995212062, 705406595, 576240414, 230538014};
        int[] numbers = {2, 3, 4, 1, 3, 4};
        for (int k = 0; k < seeds.length; k++) {
            SkewBoard x = Edges.with("f1/:" + "0001".substring(4 - numbers[k]));
            Edges.due("seed " + seeds[k] + " draws " + numbers[k], x.drawn(1, seeds[k], 1), 1);
        }
    }

    @Says("24: how many fillings, 1 to 100")
    static void oneFillingAndAHundred() {
        SkewBoard x = Edges.with("f1/:1");
        Edges.due("one", x.drawn(1, 5, 0), 1);
        Edges.due("a hundred", x.drawn(100, 5, 0), 100);
    }

    @Says("24: the random seed, 0 or more")
    static void theSmallestAndTheGreatestSeed() {
        SkewBoard x = Edges.with("f1/:1");
        Edges.due("seed 0", x.drawn(1, 0, 0), 1);
        Edges.due("seed HIGH", x.drawn(1, Edges.HIGH, 0), 1);
    }

    @Says("24: OUTSIDE if an argument is out of range;")
    static void timesBesideOneToAHundred() {
        for (int times : new int[] {0, 101, -1, Edges.LOW, Edges.HIGH}) {
            for (int what = 0; what < 3; what++) {
                Edges.due("drawn(" + times + ", 1, " + what + ")", Edges.with("f1/:1").drawn(times, 1, what),
                    Edges.OUTSIDE);
            }
        }
    }

    @Says("24: OUTSIDE if an argument is out of range;")
    static void seedsBelowZero() {
        for (int seed : new int[] {-1, Edges.LOW}) {
            for (int what = 0; what < 3; what++) {
                Edges.due("drawn(1, " + seed + ", " + what + ")", Edges.with("f1/:1").drawn(1, seed, what),
                    Edges.OUTSIDE);
            }
        }
    }

    @Says("24: OUTSIDE if an argument is out of range;")
    static void whatBesideZeroToTwo() {
        for (int what : new int[] {-1, 3, Edges.LOW, Edges.HIGH}) {
            Edges.due("drawn(1, 1, " + what + ")", Edges.with("f1/:1").drawn(1, 1, what), Edges.OUTSIDE);
        }
    }

    @Says("24: STATE if there is no board.")
    static void drawnWithoutABoard() {
        for (int what = 0; what < 3; what++) {
            Edges.due("drawn(1, 0, " + what + ")", new SkewBoard().drawn(1, 0, what), Edges.STATE);
            Edges.due("drawn(100, HIGH, " + what + ")", new SkewBoard().drawn(100, Edges.HIGH, what), Edges.STATE);
        }
    }

    @Says("24: 0 how many of them satisfy the rule of the board;")
    static void someSatisfyTheRule() {
        // behind seed 1: 3 3, 2 4, 4 4, 3 4, 1 3, 2 4
        int[] want = {6, 6, 0, 4, 2};
        for (int kind = 0; kind < 5; kind++) {
            String text = "fclst".charAt(kind) + "2/:9999";
            Edges.due("by " + text, Edges.with(text).drawn(6, 1, 0), want[kind]);
        }
    }

    @Says("24: 0 how many of them satisfy the rule of the board;")
    static void theFirstBoxCanBreakTheRule() {
        // the draws are 1, 2 and 4
        Edges.due("1 is lattice", Edges.with("l1/:1").drawn(1, 2032319262, 0), 1);
        Edges.due("2 is not lattice", Edges.with("l1/:1").drawn(1, 1742513795, 0), 0);
        Edges.due("4 is not lattice", Edges.with("l1/:1").drawn(1, 230538014, 0), 0);
        Edges.due("4 is plain", Edges.with("f1/:1").drawn(1, 230538014, 0), 1);
    }

    @Says("24: 1 how many of them are proper fillings;")
    static void someAreProper() {
        // behind seed 1: 3 3, 2 4, 4 4, 3 4, 1 3, 2 4
        Edges.due("24 comes twice", Edges.with("f2/:0101").drawn(6, 1, 1), 2);
        Edges.due("not by the content", Edges.with("f2/:11").drawn(6, 1, 1), 0);
        Edges.due("not by the rule", Edges.with("t2/:0101").drawn(6, 1, 1), 0);
        Edges.due("3 3 is drawn", Edges.with("f2/:002").drawn(6, 1, 1), 1);
        for (String more : new String[] {"102", "012", "003", "0021", "001"}) {
            Edges.due("not with a number more or less: " + more, Edges.with("f2/:" + more).drawn(6, 1, 1), 0);
        }
    }
}
