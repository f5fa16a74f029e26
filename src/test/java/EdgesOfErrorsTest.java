/** The paragraph ERRORS, and the 512 calls of an object. */
public final class EdgesOfErrorsTest {
    public static void main(String[] args) {
        Edges.runAll(EdgesOfErrorsTest.class);
    }

    @Says("ERRORS: A method reports an error by a negative return value.")
    static void errorsAreNegative() {
        int[] errors = {SkewBoard.UNKNOWN, SkewBoard.OUTSIDE, SkewBoard.STATE, SkewBoard.FULL};
        for (int error : errors) {
            Edges.isTrue(error + " is negative", error < 0);
        }
    }

    // ---- which error is which

    @Says("ERRORS: UNKNOWN (-101): there is no such row, box, filling, term or character.")
    static void unknownThings() {
        SkewBoard x = Edges.with("f1/:1");
        Edges.due("UNKNOWN", SkewBoard.UNKNOWN, -101);
        Edges.due("no such row", x.row(1, 0), -101);
        Edges.due("no such box", x.box(1, 0), -101);
        Edges.due("no such filling", x.way(1, 0), -101);
        Edges.due("no such term", x.term(1, 0), -101);
        Edges.due("no such character", x.text(9), -101);
    }

    @Says("ERRORS: OUTSIDE (-102): another argument is out of range.")
    static void argumentsOutside() {
        SkewBoard x = Edges.with("f1/:1");
        Edges.due("OUTSIDE", SkewBoard.OUTSIDE, -102);
        Edges.due("row(0, 2)", x.row(0, 2), -102);
        Edges.due("box(0, 2)", x.box(0, 2), -102);
        Edges.due("term(0, 5)", x.term(0, 5), -102);
        Edges.due("be(5)", x.be(5), -102);
    }

    @Says("ERRORS: STATE (-103): the call is not possible, as the method says.")
    static void callsThatAreNotPossible() {
        Edges.due("STATE", SkewBoard.STATE, -103);
        Edges.due("board() of an empty page", new SkewBoard().board(), -103);
    }

    @Says("ERRORS: FULL (-104): a limit is reached.")
    static void limitsThatAreReached() {
        Edges.due("FULL", SkewBoard.FULL, -104);
        Edges.due("letter 21", Edges.page("12345678901234567890").letter('1'), -104);
    }

    // ---- the first error that applies

    @Says("ERRORS: returns the first that applies.")
    static void letterLooksAtTheCodeBeforeTheFullPage() {
        Edges.due("letter(31)", Edges.page("12345678901234567890").letter(31), Edges.OUTSIDE);
    }

    @Says("ERRORS: returns the first that applies.")
    static void aboutLooksAtWhatBeforeTheMissingBoard() {
        Edges.due("about(5)", new SkewBoard().about(5), Edges.OUTSIDE);
        Edges.due("about(-1)", new SkewBoard().about(-1), Edges.OUTSIDE);
    }

    @Says("ERRORS: returns the first that applies.")
    static void asLooksAtTheKindBeforeTheMissingBoard() {
        Edges.due("as(5)", new SkewBoard().as(5), Edges.OUTSIDE);
        Edges.due("as(-1)", new SkewBoard().as(-1), Edges.OUTSIDE);
    }

    @Says("ERRORS: returns the first that applies.")
    static void rowLooksForTheRowBeforeWhat() {
        Edges.due("row(1, 2)", Edges.with("f1/:1").row(1, 2), Edges.UNKNOWN);
        Edges.due("row(0, 2) without a board", new SkewBoard().row(0, 2), Edges.UNKNOWN);
    }

    @Says("ERRORS: returns the first that applies.")
    static void contentLooksAtTheNumberBeforeTheMissingBoard() {
        Edges.due("content(0)", new SkewBoard().content(0), Edges.OUTSIDE);
        Edges.due("content(5)", new SkewBoard().content(5), Edges.OUTSIDE);
    }

    @Says("ERRORS: returns the first that applies.")
    static void boxLooksForTheBoxBeforeWhat() {
        Edges.due("box(1, 2)", Edges.with("f1/:1").box(1, 2), Edges.UNKNOWN);
        Edges.due("box(0, 2) without a board", new SkewBoard().box(0, 2), Edges.UNKNOWN);
    }

    @Says("ERRORS: returns the first that applies.")
    static void beLooksAtTheKindBeforeTheMissingBoard() {
        Edges.due("be(5)", new SkewBoard().be(5), Edges.OUTSIDE);
        Edges.due("be(-1)", new SkewBoard().be(-1), Edges.OUTSIDE);
    }

    @Says("ERRORS: returns the first that applies.")
    static void growLooksAtTheLengthsBeforeTheBoxes() {
        // 3 4 3 would be too long in row 1, and ten boxes
        Edges.due("grow(1, true) of 333", Edges.with("f333/:1").grow(1, true), Edges.STATE);
    }

    @Says("ERRORS: returns the first that applies.")
    static void cutLooksForTheRowBeforeTheLength() {
        Edges.due("cut(1, -1)", Edges.with("f1/:1").cut(1, -1), Edges.UNKNOWN);
        Edges.due("cut(0, 6) without a board", new SkewBoard().cut(0, 6), Edges.UNKNOWN);
    }

    @Says("ERRORS: returns the first that applies.")
    static void cutLooksAtTheLengthsBeforeTheBoxes() {
        // 0 5 0 would be too long in row 1, and -1 is no length; there would be ten boxes each time
        Edges.due("cut(0, 0) of 555/550", Edges.with("f555/550:1").cut(0, 0), Edges.STATE);
        Edges.due("cut(0, -1) of 54/0", Edges.with("f54/:1").cut(0, -1), Edges.STATE);
    }

    @Says("ERRORS: returns the first that applies.")
    static void giveLooksAtTheNumbersBeforeTheMissingBoard() {
        Edges.due("give(0, 1)", new SkewBoard().give(0, 1), Edges.OUTSIDE);
        Edges.due("give(1, 5)", new SkewBoard().give(1, 5), Edges.OUTSIDE);
    }

    @Says("ERRORS: returns the first that applies.")
    static void giveLooksAtTheNumbersBeforeTheContent() {
        SkewBoard x = Edges.with("f1/:09");
        Edges.due("give(1, 5), no 1 there", x.give(1, 5), Edges.OUTSIDE);
        Edges.due("give(0, 2), nine 2 there", x.give(0, 2), Edges.OUTSIDE);
    }

    @Says("ERRORS: returns the first that applies.")
    static void giveLooksAtFromBeforeTo() {
        Edges.due("give(1, 2), no 1 and nine 2", Edges.with("f1/:09").give(1, 2), Edges.STATE);
    }

    @Says("ERRORS: returns the first that applies.")
    static void hiveLooksForTheFillingBeforeTheRest() {
        Edges.due("hive(1, 5, 5)", Edges.with("f1/:1").hive(1, 5, 5), Edges.UNKNOWN);
        Edges.due("hive(0, 0, 5) without a board", new SkewBoard().hive(0, 0, 5), Edges.UNKNOWN);
    }

    @Says("ERRORS: returns the first that applies.")
    static void termLooksForTheTermBeforeWhat() {
        Edges.due("term(1, 5)", Edges.with("f1/:1").term(1, 5), Edges.UNKNOWN);
        Edges.due("term(0, 5) without a board", new SkewBoard().term(0, 5), Edges.UNKNOWN);
    }

    @Says("ERRORS: returns the first that applies.")
    static void seeLooksAtWhatBeforeTheMissingBoard() {
        Edges.due("see(4, true)", new SkewBoard().see(4, true), Edges.OUTSIDE);
    }

    @Says("ERRORS: returns the first that applies.")
    static void seeLooksAtWhatBeforeTheSixObservations() {
        SkewBoard x = Edges.with("f1/:1");
        for (int k = 0; k < 6; k++) {
            x.see(0, true);
        }
        Edges.due("see(4, true)", x.see(4, true), Edges.OUTSIDE);
        Edges.due("see(-1, true)", x.see(-1, true), Edges.OUTSIDE);
    }

    @Says("ERRORS: returns the first that applies.")
    static void drawnLooksAtTheArgumentsBeforeTheMissingBoard() {
        Edges.due("drawn(0, 0, 0)", new SkewBoard().drawn(0, 0, 0), Edges.OUTSIDE);
        Edges.due("drawn(1, -1, 0)", new SkewBoard().drawn(1, -1, 0), Edges.OUTSIDE);
        Edges.due("drawn(1, 0, 3)", new SkewBoard().drawn(1, 0, 3), Edges.OUTSIDE);
    }

    // ---- refused calls: the promises have a test each, this is for the calls that only ask

    @Says("ERRORS: A call that returns an error changes nothing.")
    static void refusedQuestionsChangeNothing() {
        Edges.refused(Edges::full, "text(-1)", x -> x.text(-1), Edges.UNKNOWN);
        Edges.refused(Edges::full, "about(5)", x -> x.about(5), Edges.OUTSIDE);
        Edges.refused(Edges::full, "as(5)", x -> x.as(5), Edges.OUTSIDE);
        Edges.refused(Edges::full, "row(3, 0)", x -> x.row(3, 0), Edges.UNKNOWN);
        Edges.refused(Edges::full, "content(0)", x -> x.content(0), Edges.OUTSIDE);
        Edges.refused(Edges::full, "box(6, 0)", x -> x.box(6, 0), Edges.UNKNOWN);
        Edges.refused(Edges::full, "way(-1, 0)", x -> x.way(-1, 0), Edges.UNKNOWN);
        Edges.refused(Edges::full, "hive(0, 4, 0)", x -> x.hive(0, 4, 0), Edges.OUTSIDE);
        Edges.refused(Edges::full, "term(-1, 0)", x -> x.term(-1, 0), Edges.UNKNOWN);
        Edges.refused(Edges::full, "sorts(2)", x -> x.sorts(2), Edges.OUTSIDE);
        Edges.refused(Edges::full, "drawn(101, 1, 0)", x -> x.drawn(101, 1, 0), Edges.OUTSIDE);
        Edges.refused(Edges::full, "count(8)", x -> x.count(8), Edges.OUTSIDE);
    }

    @Says("ERRORS: A call that returns an error changes nothing.")
    static void refusedCallsWithoutABoardChangeNothing() {
        Edges.refused(x -> Edges.type(x, "f1/:"), "about(4)", x -> x.about(4), Edges.STATE);
        Edges.refused(x -> Edges.type(x, "f1/:"), "be(1)", x -> x.be(1), Edges.STATE);
        Edges.refused(x -> Edges.type(x, "f1/:"), "grow(0, true)", x -> x.grow(0, true), Edges.UNKNOWN);
        Edges.refused(x -> Edges.type(x, "f1/:"), "cut(0, 0)", x -> x.cut(0, 0), Edges.UNKNOWN);
        Edges.refused(x -> Edges.type(x, "f1/:"), "give(1, 2)", x -> x.give(1, 2), Edges.STATE);
        Edges.refused(x -> Edges.type(x, "f1/:"), "give(2, 2)", x -> x.give(2, 2), Edges.STATE);
        Edges.refused(x -> Edges.type(x, "f1/:"), "terms()", x -> x.terms(), Edges.STATE);
        Edges.refused(x -> Edges.type(x, "f1/:"), "see(0, true)", x -> x.see(0, true), Edges.STATE);
        Edges.refused(x -> Edges.type(x, "f1/:"), "image()", x -> x.image(), Edges.STATE);
        Edges.refused(x -> Edges.type(x, "f1/:"), "restore()", x -> x.restore(), Edges.STATE);
    }

    // ---- NONE

    @Says("ERRORS: NONE (-1) is no error;")
    static void aCallThatAnswersNoneIsDone() {
        SkewBoard x = Edges.with("f2/:11");
        Edges.type(x, "21");
        Edges.due("NONE", SkewBoard.NONE, -1);
        Edges.due("filling 21", x.filling(), -1);
        Edges.due("characters of the page", x.count(6), 0);
    }

    @Says("ERRORS: it stands for \"no such thing\" and is returned only if no error applies.")
    static void noneStandsBehindEveryError() {
        SkewBoard x = Edges.with("f2/:11");
        x.see(2, true);
        x.see(2, false);
        Edges.due("sorts(2) without such a kind", x.sorts(2), Edges.OUTSIDE);
        Edges.due("as(5) of plain", x.as(5), Edges.OUTSIDE);
        Edges.type(x, "25");
        Edges.due("filling 25", x.filling(), Edges.STATE);
        Edges.due("filling 1 without a board", Edges.page("1").filling(), Edges.STATE);
    }

    // ---- numbers and sets

    @Says("ERRORS: Everything is numbered from 0.")
    static void theFirstThingIsZero() {
        SkewBoard x = Edges.with("l1/:1");
        Edges.due("text(0)", x.text(0), 'l');
        Edges.due("row(0, 0)", x.row(0, 0), 1);
        Edges.due("box(0, 0)", x.box(0, 0), 0);
        Edges.due("way(0, 0)", x.way(0, 0), 1);
        Edges.due("term(0, 0)", x.term(0, 0), 1);
    }

    @Says("ERRORS: Without a board there are no rows, boxes, fillings and terms.")
    static void noRowsWithoutABoard() {
        SkewBoard x = new SkewBoard();
        Edges.due("row(0, 0)", x.row(0, 0), Edges.UNKNOWN);
        Edges.due("grow(0, true)", x.grow(0, true), Edges.UNKNOWN);
        Edges.due("cut(0, 0)", x.cut(0, 0), Edges.UNKNOWN);
    }

    @Says("ERRORS: Without a board there are no rows, boxes, fillings and terms.")
    static void noBoxesWithoutABoard() {
        Edges.due("box(0, 0)", new SkewBoard().box(0, 0), Edges.UNKNOWN);
    }

    @Says("ERRORS: Without a board there are no rows, boxes, fillings and terms.")
    static void noFillingsWithoutABoard() {
        Edges.due("way(0, 0)", new SkewBoard().way(0, 0), Edges.UNKNOWN);
        Edges.due("hive(0, 0, 0)", new SkewBoard().hive(0, 0, 0), Edges.UNKNOWN);
    }

    @Says("ERRORS: Without a board there are no rows, boxes, fillings and terms.")
    static void noTermsWithoutABoard() {
        Edges.due("term(0, 0)", new SkewBoard().term(0, 0), Edges.UNKNOWN);
    }

    @Says("ERRORS: Sets are sets of bits: bit k stands for number k.")
    static void theBitsOfTheFirstAndTheLastKind() {
        SkewBoard x = Edges.with("f1/:1");
        x.see(2, true);
        Edges.due("turned alone", x.sorts(0), 1 << 4);
        x.forget();
        x.see(1, true);
        Edges.due("plain and strict", x.sorts(0), (1 << 0) + (1 << 3));
    }

    // ---- the last calls of an object

    @Says("An object: is used for at most 512 calls after it has been made;")
    static void theLastOf512CallsIsAnsweredToo() {
        SkewBoard x = new SkewBoard();
        int calls = 0;
        for (int board = 1; board <= 85; board++) {
            Edges.type(x, "f1/:1");
            Edges.due("board() " + board, x.board(), 1);
            calls += 6;
        }
        Edges.due("letter('a')", x.letter('a'), 1);
        calls++;
        Edges.due("count(7)", x.count(7), 85);
        calls++;
        Edges.due("calls", calls, 512);
    }

    @Says("An object: is used for at most 512 calls after it has been made;")
    static void letters512Times() {
        SkewBoard x = new SkewBoard();
        for (int call = 1; call <= 512; call++) {
            Edges.due("letter " + call, x.letter('~'), call <= 20 ? call : Edges.FULL);
        }
    }
}
