/** The promises 13 to 16. */
public final class EdgesOfChangesTest {
    public static void main(String[] args) {
        Edges.runAll(EdgesOfChangesTest.class);
    }

    private static void grows(String text, int row, boolean more, int boxes, String then) {
        SkewBoard x = Edges.with(text);
        Edges.due("grow(" + row + ", " + more + ") of " + text, x.grow(row, more), boxes);
        Edges.boardIs(x, then);
    }

    private static void doesNotGrow(String text, int row, boolean more, int error) {
        Edges.refused(x -> Edges.read(x, text), "grow(" + row + ", " + more + ") of " + text,
            x -> x.grow(row, more), error);
    }

    private static void cuts(String text, int row, int inner, int previous, String then) {
        SkewBoard x = Edges.with(text);
        Edges.due("cut(" + row + ", " + inner + ") of " + text, x.cut(row, inner), previous);
        Edges.boardIs(x, then);
    }

    private static void doesNotCut(String text, int row, int inner, int error) {
        Edges.refused(x -> Edges.read(x, text), "cut(" + row + ", " + inner + ") of " + text,
            x -> x.cut(row, inner), error);
    }

    private static void gives(String text, int from, int to, int times, String then) {
        SkewBoard x = Edges.with(text);
        Edges.due("give(" + from + ", " + to + ") of " + text, x.give(from, to), times);
        Edges.boardIs(x, then);
    }

    private static void doesNotGive(String text, int from, int to, int error) {
        Edges.refused(x -> Edges.read(x, text), "give(" + from + ", " + to + ") of " + text,
            x -> x.give(from, to), error);
    }

    /** What was asked before a change is not answered behind it. */
    private static void fillingsAndTerms(SkewBoard x, int fillings, int terms, int firstLength) {
        Edges.due("about(4)", x.about(4), fillings);
        Edges.due("way(0, 0) if there is a filling", x.way(0, 0) > 0 ? 1 : 0, fillings > 0 ? 1 : 0);
        Edges.due("count(2)", x.count(2), fillings);
        Edges.due("terms()", x.terms(), terms);
        Edges.due("term(0, 0)", x.term(0, 0), firstLength);
    }

    // ---- 13

    @Says("13: Sets the rule of the board.")
    static void theFillingsAreThoseOfTheNewRule() {
        SkewBoard x = Edges.with("f21/1:11");
        fillingsAndTerms(x, 2, 2, 2);
        x.be(2);
        fillingsAndTerms(x, 1, 2, 2);
        Edges.due("way(1, 0)", x.way(1, 0), Edges.UNKNOWN);
    }

    @Says("13: Returns the previous kind;")
    static void theSameKindAgain() {
        SkewBoard x = Edges.with("f1/:1");
        Edges.due("be(4)", x.be(4), 0);
        Edges.due("be(4) again", x.be(4), 4);
        Edges.due("about(0)", x.about(0), 4);
    }

    @Says("13: the kind, 0 to 4")
    static void theFirstAndTheLastKindCanBeSet() {
        SkewBoard x = Edges.with("l1/:1");
        Edges.due("be(0)", x.be(0), 2);
        Edges.boardIs(x, "f1/0:1000");
        Edges.due("be(4)", x.be(4), 0);
        Edges.boardIs(x, "t1/0:1000");
    }

    @Says("13: OUTSIDE if kind is out of range;")
    static void kindsBesideZeroToFour() {
        for (int kind : new int[] {-1, 5, Edges.LOW, Edges.HIGH}) {
            Edges.refused(Edges::full, "be(" + kind + ")", x -> x.be(kind), Edges.OUTSIDE);
        }
    }

    @Says("13: STATE if there is no board.")
    static void beWithoutABoard() {
        for (int kind = 0; kind < 5; kind++) {
            Edges.due("be(" + kind + ")", new SkewBoard().be(kind), Edges.STATE);
        }
    }

    // ---- 14

    @Says("14: UNKNOWN if there is no such row;")
    static void growOfNoSuchRow() {
        for (int row : new int[] {-1, 2, 3, Edges.LOW, Edges.HIGH}) {
            doesNotGrow("f31/:1", row, true, Edges.UNKNOWN);
            doesNotGrow("f31/:1", row, false, Edges.UNKNOWN);
        }
        doesNotGrow("f2111/:1", 4, true, Edges.UNKNOWN);
    }

    @Says("14: UNKNOWN if there is no such row;")
    static void growWithoutABoard() {
        Edges.due("grow(0, true)", new SkewBoard().grow(0, true), Edges.UNKNOWN);
        Edges.due("grow(0, false)", new SkewBoard().grow(0, false), Edges.UNKNOWN);
    }

    @Says("14: STATE if the outer lengths would not be allowed then (0,")
    static void growToZero() {
        grows("f2/:1", 0, false, 1, "f1/0:1000");
        doesNotGrow("f1/:1", 0, false, Edges.STATE);
        doesNotGrow("f11/:1", 1, false, Edges.STATE);
        doesNotGrow("f1/1:1", 0, false, Edges.STATE);
    }

    @Says("14: above 5,")
    static void growAboveFive() {
        grows("f4/:1", 0, true, 5, "f5/0:1000");
        doesNotGrow("f5/:1", 0, true, Edges.STATE);
        doesNotGrow("f5/5:1", 0, true, Edges.STATE);
    }

    @Says("14: greater than that of the row above,")
    static void growBesideTheRowAbove() {
        grows("f21/:1", 1, true, 4, "f22/00:1000");
        doesNotGrow("f22/:1", 1, true, Edges.STATE);
        doesNotGrow("f2111/:1", 3, true, Edges.STATE);
    }

    @Says("14: less than that of the row below,")
    static void growBesideTheRowBelow() {
        grows("f32/:1", 0, false, 4, "f22/00:1000");
        doesNotGrow("f22/:1", 0, false, Edges.STATE);
        doesNotGrow("f3222/:1", 2, false, Edges.STATE);
        // below the last row there is none
        grows("f2222/:1", 3, false, 7, "f2221/0000:1000");
    }

    @Says("14: or less than the inner length);")
    static void growBesideTheInnerLength() {
        grows("f3/2:1", 0, false, 0, "f2/2:1000");
        doesNotGrow("f2/2:1", 0, false, Edges.STATE);
        doesNotGrow("f42/32:1", 1, false, Edges.STATE);
        grows("f2/2:1", 0, true, 1, "f3/2:1000");
    }

    @Says("14: FULL if there would be more than nine boxes.")
    static void growToNineBoxesAndTen() {
        grows("f44/:1", 0, true, 9, "f54/00:1000");
        doesNotGrow("f54/:1", 1, true, Edges.FULL);
        doesNotGrow("f333/:1", 0, true, Edges.FULL);
        grows("f333/:1", 2, false, 8, "f332/000:1000");
    }

    @Says("14: Returns the number of boxes then;")
    static void growToNoBoxes() {
        grows("f5/4:1", 0, false, 0, "f4/4:1000");
    }

    @Says("14: Makes the outer length of a row greater or smaller by 1.")
    static void theFillingsAreThoseOfTheNewOuterLengths() {
        SkewBoard x = Edges.with("f21/1:11");
        fillingsAndTerms(x, 2, 2, 2);
        x.grow(0, true);
        fillingsAndTerms(x, 0, 2, 2);
        x.grow(0, false);
        fillingsAndTerms(x, 2, 2, 2);
    }

    @Says("14: Makes the outer length of a row greater or smaller by 1.")
    static void refusedGrowsChangeNothing() {
        Edges.refused(Edges::full, "grow(3, true)", x -> x.grow(3, true), Edges.UNKNOWN);
        Edges.refused(Edges::full, "grow(2, false)", x -> x.grow(2, false), Edges.STATE);
        Edges.refused(EdgesOfChangesTest::nineBoxes, "grow(1, true)", x -> x.grow(1, true), Edges.FULL);
    }

    private static void nineBoxes(SkewBoard x) {
        Edges.full(x);
        x.cut(0, 0);
        x.grow(0, true);
        x.grow(1, true);
    }

    // ---- 15

    @Says("15: UNKNOWN if there is no such row;")
    static void cutOfNoSuchRow() {
        for (int row : new int[] {-1, 2, 3, Edges.LOW, Edges.HIGH}) {
            doesNotCut("f31/1:1", row, 0, Edges.UNKNOWN);
        }
        doesNotCut("f2111/:1", 4, 0, Edges.UNKNOWN);
    }

    @Says("15: UNKNOWN if there is no such row;")
    static void cutWithoutABoard() {
        Edges.due("cut(0, 0)", new SkewBoard().cut(0, 0), Edges.UNKNOWN);
    }

    @Says("15: STATE if the inner lengths would not be allowed then;")
    static void cutBesideZeroToFive() {
        cuts("f5/1:1", 0, 0, 1, "f5/0:1000");
        cuts("f5/1:1", 0, 5, 1, "f5/5:1000");
        for (int inner : new int[] {-1, 6, Edges.LOW, Edges.HIGH}) {
            doesNotCut("f5/1:1", 0, inner, Edges.STATE);
        }
    }

    @Says("15: STATE if the inner lengths would not be allowed then;")
    static void cutBesideTheRowAbove() {
        cuts("f33/2:1", 1, 2, 0, "f33/22:1000");
        doesNotCut("f33/2:1", 1, 3, Edges.STATE);
        doesNotCut("f3333/3332:1", 3, 4, Edges.STATE);
    }

    @Says("15: STATE if the inner lengths would not be allowed then;")
    static void cutBesideTheRowBelow() {
        cuts("f33/21:1", 0, 1, 2, "f33/11:1000");
        doesNotCut("f33/21:1", 0, 0, Edges.STATE);
        doesNotCut("f3333/3332:1", 2, 1, Edges.STATE);
        // below the last row there is none
        cuts("f3333/3332:1", 3, 0, 2, "f3333/3330:1000");
    }

    @Says("15: STATE if the inner lengths would not be allowed then;")
    static void cutBesideTheOuterLength() {
        cuts("f42/4:1", 1, 2, 0, "f42/42:1000");
        doesNotCut("f42/4:1", 1, 3, Edges.STATE);
        doesNotCut("f4/:1", 0, 5, Edges.STATE);
    }

    @Says("15: FULL if there would be more than nine boxes.")
    static void cutToNineBoxesAndTen() {
        cuts("f55/5:1", 0, 1, 5, "f55/10:1000");
        doesNotCut("f55/5:1", 0, 0, Edges.FULL);
        doesNotCut("f55/1:1", 0, 0, Edges.FULL);
        doesNotCut("f543/21:1", 1, 0, Edges.FULL);
    }

    @Says("15: Returns the previous inner length;")
    static void theSameInnerLengthAgain() {
        cuts("f5/5:1", 0, 5, 5, "f5/5:1000");
        cuts("f5/:1", 0, 0, 0, "f5/0:1000");
        cuts("f54/:1", 1, 0, 0, "f54/00:1000");
    }

    @Says("15: Sets the inner length of a row.")
    static void theFillingsAndTermsAreThoseOfTheNewInnerLengths() {
        SkewBoard x = Edges.with("f21/1:11");
        fillingsAndTerms(x, 2, 2, 2);
        x.cut(0, 0);
        fillingsAndTerms(x, 0, 1, 1);
        x.cut(0, 1);
        fillingsAndTerms(x, 2, 2, 2);
    }

    @Says("15: Sets the inner length of a row.")
    static void refusedCutsChangeNothing() {
        Edges.refused(Edges::full, "cut(3, 0)", x -> x.cut(3, 0), Edges.UNKNOWN);
        Edges.refused(Edges::full, "cut(2, 1)", x -> x.cut(2, 1), Edges.STATE);
        Edges.refused(Edges::full, "cut(0, 5)", x -> x.cut(0, 5), Edges.STATE);
        Edges.refused(EdgesOfChangesTest::tenBoxesButOne, "cut(0, 0)", x -> x.cut(0, 0), Edges.FULL);
    }

    private static void tenBoxesButOne(SkewBoard x) {
        Edges.full(x);
        x.grow(0, true);
        x.grow(1, true);
        x.grow(2, true);
    }

    // ---- 16

    @Says("16: Returns how many times the number to is to be there then;")
    static void giveTheLastOneAndGiveTheNinthOne() {
        gives("f1/:1", 1, 4, 1, "f1/0:0001");
        gives("f1/:18", 1, 2, 9, "f1/0:0900");
        gives("f1/:9008", 1, 4, 9, "f1/0:8009");
    }

    @Says("16: one number less of a kind, and one more of a kind.")
    static void theFillingsAndTermsAreThoseOfTheNewContent() {
        SkewBoard x = Edges.with("f21/1:11");
        fillingsAndTerms(x, 2, 2, 2);
        x.give(2, 1);
        fillingsAndTerms(x, 1, 2, 3);
        x.give(1, 2);
        x.give(1, 2);
        fillingsAndTerms(x, 1, 0, Edges.UNKNOWN);
    }

    @Says("16: OUTSIDE if from or to is out of range;")
    static void giveFromBesideOneToFour() {
        for (int from : new int[] {0, 5, -1, Edges.LOW, Edges.HIGH}) {
            doesNotGive("f1/:1111", from, 1, Edges.OUTSIDE);
        }
    }

    @Says("16: OUTSIDE if from or to is out of range;")
    static void giveToBesideOneToFour() {
        for (int to : new int[] {0, 5, -1, Edges.LOW, Edges.HIGH}) {
            doesNotGive("f1/:1111", 1, to, Edges.OUTSIDE);
        }
        doesNotGive("f1/:1111", 0, 0, Edges.OUTSIDE);
        doesNotGive("f1/:1111", 5, 5, Edges.OUTSIDE);
    }

    @Says("16: the number of which there is one less, 1 to 4")
    static void giveFromTheFirstAndTheLastNumber() {
        gives("f1/:3003", 1, 2, 1, "f1/0:2103");
        gives("f1/:3003", 4, 2, 1, "f1/0:3102");
    }

    @Says("16: the number of which there is one more, 1 to 4")
    static void giveToTheFirstAndTheLastNumber() {
        gives("f1/:0330", 2, 1, 1, "f1/0:1230");
        gives("f1/:0330", 3, 4, 1, "f1/0:0321");
    }

    @Says("16: STATE if there is no board or the number from is not in the content;")
    static void giveWithoutABoard() {
        Edges.due("give(1, 2)", new SkewBoard().give(1, 2), Edges.STATE);
        Edges.due("give(4, 4)", new SkewBoard().give(4, 4), Edges.STATE);
    }

    @Says("16: STATE if there is no board or the number from is not in the content;")
    static void giveWhatIsNotThere() {
        doesNotGive("f1/:1011", 2, 1, Edges.STATE);
        doesNotGive("f1/:0", 1, 2, Edges.STATE);
    }

    @Says("16: FULL if the number to is to be there nine times already.")
    static void giveToNine() {
        doesNotGive("f1/:19", 1, 2, Edges.FULL);
        doesNotGive("f1/:9999", 4, 3, Edges.FULL);
    }

    @Says("16: If both are the same number, nothing changes, but the errors are the same.")
    static void giveToTheSameNumber() {
        gives("f1/:18", 1, 1, 1, "f1/0:1800");
        gives("f1/:18", 2, 2, 8, "f1/0:1800");
    }

    @Says("16: If both are the same number, nothing changes, but the errors are the same.")
    static void giveToTheSameNumberThatIsNotThere() {
        doesNotGive("f1/:1", 2, 2, Edges.STATE);
    }

    @Says("16: If both are the same number, nothing changes, but the errors are the same.")
    static void giveToTheSameNumberThatIsThereNineTimes() {
        doesNotGive("f1/:9", 1, 1, Edges.FULL);
    }

    @Says("16: If both are the same number, nothing changes, but the errors are the same.")
    static void refusedGiftsChangeNothing() {
        Edges.refused(Edges::full, "give(4, 1)", x -> x.give(4, 1), Edges.STATE);
        Edges.refused(Edges::full, "give(1, 5)", x -> x.give(1, 5), Edges.OUTSIDE);
        Edges.refused(Edges::full, "give(2, 2)", x -> x.give(2, 2), 2);
    }
}
