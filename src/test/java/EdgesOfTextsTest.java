/** The paragraph TEXTS, and the promises 1 to 7. */
public final class EdgesOfTextsTest {
    private static final String DIGITS = "0123456789";
    private static final String TWENTY = "abcdefghijklmnopqrst";

    public static void main(String[] args) {
        Edges.runAll(EdgesOfTextsTest.class);
    }

    /** Of all signs that a page can have, just these go on with the text. */
    private static void goesOnWith(String text, String signs) {
        for (int code = 32; code <= 126; code++) {
            SkewBoard x = Edges.page(text);
            x.letter(code);
            boolean goesOn = signs.indexOf(code) >= 0;
            Edges.due("fault() of '" + text + (char) code + "'", x.fault(), text.length() + (goesOn ? 1 : 0));
        }
    }

    private static void faultIs(String text, int want) {
        Edges.due("fault() of '" + text + "'", Edges.page(text).fault(), want);
    }

    // ---- TEXTS

    @Says("TEXTS: A board can be read from a page of at most 20 characters, which is empty at first.")
    static void thePageHasRoomForTwenty() {
        SkewBoard x = Edges.page(TWENTY);
        Edges.due("count(6)", x.count(6), 20);
        Edges.due("letter 21", x.letter('u'), Edges.FULL);
    }

    @Says("TEXTS: A board can be read from a page of at most 20 characters, which is empty at first.")
    static void thePageIsEmptyAtFirst() {
        Edges.due("count(6)", new SkewBoard().count(6), 0);
    }

    @Says("TEXTS: a letter for the rule (f plain, c columns, l lattice, s strict, t turned);")
    static void theFiveLettersAndNoOther() {
        goesOnWith("", "fclst");
        for (int kind = 0; kind < 5; kind++) {
            Edges.due("kind", Edges.with("fclst".charAt(kind) + "1/:1").about(0), kind);
        }
        Edges.notAccepted("F1/:1");
        Edges.notAccepted("1/:1");
    }

    @Says("TEXTS: a digit for each outer length;")
    static void outerLengthsInTheText() {
        Edges.boardIs(Edges.with("f5/5:1"), "f5/5:1000");
        Edges.boardIs(Edges.with("f5421/542:1"), "f5421/5420:1000");
    }

    @Says("TEXTS: a slash;")
    static void theSlashIsNeeded() {
        Edges.notAccepted("f3:1");
        Edges.notAccepted("f30:1");
        Edges.notAccepted("f3//:1");
        Edges.notAccepted("f/3/:1");
    }

    @Says("TEXTS: digits for the inner lengths, none to as many as there are rows, where missing ones are 0;")
    static void noInnerLengths() {
        Edges.boardIs(Edges.with("f21/:1"), "f21/00:1000");
    }

    @Says("TEXTS: digits for the inner lengths, none to as many as there are rows, where missing ones are 0;")
    static void oneInnerLengthTooFew() {
        Edges.boardIs(Edges.with("f321/21:1"), "f321/210:1000");
        Edges.boardIs(Edges.with("f3211/321:1"), "f3211/3210:1000");
    }

    @Says("TEXTS: digits for the inner lengths, none to as many as there are rows, where missing ones are 0;")
    static void asManyInnerLengthsAsRows() {
        Edges.boardIs(Edges.with("f1/1:1"), "f1/1:1000");
        Edges.boardIs(Edges.with("f3211/3211:1"), "f3211/3211:1000");
    }

    @Says("TEXTS: digits for the inner lengths, none to as many as there are rows, where missing ones are 0;")
    static void oneInnerLengthTooMany() {
        Edges.notAccepted("f1/10:1");
        Edges.notAccepted("f321/3210:1");
        Edges.notAccepted("f1111/11110:1");
    }

    @Says("TEXTS: digits for the inner lengths, none to as many as there are rows, where missing ones are 0;")
    static void missingInnerLengthsAreZeroAfterAnotherBoardToo() {
        SkewBoard x = Edges.with("f5432/5432:1234");
        Edges.read(x, "f3211/2:5");
        Edges.boardIs(x, "f3211/2000:5000");
    }

    @Says("TEXTS: a colon;")
    static void theColonIsNeeded() {
        Edges.notAccepted("f3/1");
        Edges.notAccepted("f3/");
        Edges.notAccepted("f3/1::1");
    }

    @Says("TEXTS: and one to four digits for the content, where missing ones are 0.")
    static void noDigitForTheContent() {
        Edges.notAccepted("f3/1:");
    }

    @Says("TEXTS: and one to four digits for the content, where missing ones are 0.")
    static void oneDigitForTheContent() {
        Edges.boardIs(Edges.with("f3/1:2"), "f3/1:2000");
    }

    @Says("TEXTS: and one to four digits for the content, where missing ones are 0.")
    static void fourDigitsForTheContent() {
        Edges.boardIs(Edges.with("f3/1:1234"), "f3/1:1234");
    }

    @Says("TEXTS: and one to four digits for the content, where missing ones are 0.")
    static void fiveDigitsForTheContent() {
        Edges.notAccepted("f3/1:12340");
    }

    // ---- 1

    @Says("1: Creates a workbench without a board, with an empty page,")
    static void aNewObjectHasNoBoard() {
        for (int what = 0; what < 5; what++) {
            Edges.due("about(" + what + ")", new SkewBoard().about(what), Edges.STATE);
        }
        Edges.due("count(7)", new SkewBoard().count(7), 0);
    }

    @Says("1: Creates a workbench without a board, with an empty page,")
    static void aNewObjectHasAnEmptyPage() {
        Edges.due("blank()", new SkewBoard().blank(), 0);
        Edges.due("letter", new SkewBoard().letter('a'), 1);
        Edges.due("board()", new SkewBoard().board(), Edges.STATE);
    }

    @Says("1: without observations and a saved state.")
    static void aNewObjectHasNoObservations() {
        Edges.due("forget()", new SkewBoard().forget(), 0);
        Edges.due("sorts(0)", new SkewBoard().sorts(0), 31);
    }

    @Says("1: without observations and a saved state.")
    static void aNewObjectHasNothingSaved() {
        Edges.due("restore()", new SkewBoard().restore(), Edges.STATE);
    }

    @Says("1: Creates a workbench without a board, with an empty page,")
    static void objectsAreApart() {
        SkewBoard x = new SkewBoard();
        long before = x.digest();
        Edges.full(new SkewBoard());
        Edges.due("digest()", x.digest(), before);
        Edges.due("restore()", x.restore(), Edges.STATE);
    }

    // ---- 2

    @Says("2: Returns how many characters the page has then;")
    static void theFirstAndTheLastCharacter() {
        SkewBoard x = new SkewBoard();
        for (int k = 1; k <= 20; k++) {
            Edges.due("letter " + k, x.letter('x'), k);
        }
    }

    @Says("2: OUTSIDE if code is out of range;")
    static void codesThatAreTooSmall() {
        SkewBoard x = new SkewBoard();
        for (int code : new int[] {31, 10, 0, -1, Edges.LOW}) {
            Edges.due("letter(" + code + ")", x.letter(code), Edges.OUTSIDE);
        }
    }

    @Says("2: OUTSIDE if code is out of range;")
    static void codesThatAreTooLarge() {
        SkewBoard x = new SkewBoard();
        for (int code : new int[] {127, 128, 233, 256 + 'f', 65536 + 'f', Edges.HIGH}) {
            Edges.due("letter(" + code + ")", x.letter(code), Edges.OUTSIDE);
        }
    }

    @Says("2: its code, 32 to 126")
    static void theSmallestAndTheLargestCode() {
        Edges.due("letter(32)", new SkewBoard().letter(32), 1);
        Edges.due("letter(126)", new SkewBoard().letter(126), 1);
    }

    @Says("2: FULL if it has 20 characters.")
    static void theFullPage() {
        SkewBoard x = Edges.page(TWENTY);
        Edges.due("letter 21", x.letter('u'), Edges.FULL);
        Edges.due("letter 21 again", x.letter('u'), Edges.FULL);
        x.blank();
        Edges.due("letter after blank()", x.letter('u'), 1);
    }

    @Says("2: FULL if it has 20 characters.")
    static void refusedLettersChangeNothing() {
        Edges.refused(x -> Edges.type(x, TWENTY), "letter 21", x -> x.letter('u'), Edges.FULL);
        Edges.refused(Edges::full, "letter(127)", x -> x.letter(127), Edges.OUTSIDE);
        Edges.refused(Edges::full, "letter(31)", x -> x.letter(31), Edges.OUTSIDE);
    }

    // ---- 3

    @Says("3: Returns how many characters it had.")
    static void blankOfAnEmptyPage() {
        SkewBoard x = new SkewBoard();
        Edges.due("blank()", x.blank(), 0);
        Edges.due("blank() again", x.blank(), 0);
    }

    @Says("3: Returns how many characters it had.")
    static void blankOfAFullPage() {
        Edges.due("blank()", Edges.page(TWENTY).blank(), 20);
    }

    @Says("3: Empties the page.")
    static void thePageIsEmptyAfterBlank() {
        SkewBoard x = Edges.page("f1/:1");
        x.blank();
        Edges.due("count(6)", x.count(6), 0);
        Edges.due("board()", x.board(), Edges.STATE);
        Edges.due("blank()", x.blank(), 0);
    }

    @Says("3: Empties the page.")
    static void blankLeavesTheRest() {
        SkewBoard x = new SkewBoard();
        Edges.full(x);
        x.blank();
        Edges.boardIs(x, "f421/100:3210");
        Edges.due("observations", x.count(5), 2);
        Edges.due("restore()", x.restore(), 6);
    }

    // ---- 4

    @Says("4: Returns the index (from 0) of the first character of the page with which,")
    static void faultsOfTheFirstCharacter() {
        goesOnWith("", "fclst");
        faultIs("x", 0);
        faultIs("3f/:1", 0);
        faultIs(TWENTY, 0);
    }

    @Says("4: after the characters before it, no board text continues.")
    static void faultsOfOuterLengths() {
        goesOnWith("f", "12345");
        goesOnWith("t5", "12345/");
        goesOnWith("c3", "123/");
        goesOnWith("s53", "123/");
        goesOnWith("l1", "1/");
        goesOnWith("f555", "12345/");
        goesOnWith("f5555", "/");
    }

    @Says("4: after the characters before it, no board text continues.")
    static void faultsOfInnerLengths() {
        goesOnWith("f5/", "012345:");
        goesOnWith("f3/", "0123:");
        goesOnWith("f33/2", "012:");
        goesOnWith("f31/3", "01:");
        goesOnWith("f31/0", "0:");
        goesOnWith("f3/0", ":");
        goesOnWith("f31/31", ":");
        goesOnWith("f5432/543", "012:");
        goesOnWith("f5432/5432", ":");
    }

    @Says("4: after the characters before it, no board text continues.")
    static void faultsOfTheContent() {
        goesOnWith("f3/:", DIGITS);
        goesOnWith("f3/3:1", DIGITS);
        goesOnWith("f3/3:99", DIGITS);
        goesOnWith("f3/3:999", DIGITS);
        goesOnWith("f3/3:9999", "");
    }

    @Says("4: after the characters before it, no board text continues.")
    static void onlyTheFirstFaultCounts() {
        faultIs("f1x/yz", 2);
        faultIs("f12/9:xxxxxxxxxxxxxx", 2);
        faultIs("f3/:1zzzzzzzzzzzzzzz", 5);
    }

    @Says("4: The number of boxes does not matter for it.")
    static void tooManyBoxesAreNoFault() {
        faultIs("f55/:9", 6);
        faultIs("f5555/0000:9999", 15);
        faultIs("f5555/0000:99999", 15);
    }

    @Says("4: the number of characters of the page if there is no such character (also if the text is not complete).")
    static void beginningsHaveNoFault() {
        String text = "l5431/4310:9012";
        for (int end = 0; end <= text.length(); end++) {
            faultIs(text.substring(0, end), end);
        }
    }

    @Says("4: the number of characters of the page if there is no such character (also if the text is not complete).")
    static void theEmptyPageHasNoFault() {
        Edges.due("fault()", new SkewBoard().fault(), 0);
    }

    @Says("4: Returns the index (from 0) of the first character of the page with which,")
    static void faultChangesNothing() {
        Edges.refused(Edges::full, "fault()", x -> x.fault(), 6);
        Edges.refused(x -> Edges.type(x, "f3/4:12"), "fault()", x -> x.fault(), 3);
    }

    // ---- 5

    @Says("5: Reads the board from the page, and empties the page.")
    static void thePageIsEmptyThen() {
        SkewBoard x = Edges.page("f2/:2");
        x.board();
        Edges.due("count(6)", x.count(6), 0);
        Edges.due("board() again", x.board(), Edges.STATE);
        Edges.due("letter", x.letter('f'), 1);
    }

    @Says("5: The present board is replaced, and there are no observations then.")
    static void nothingOfThePresentBoardStays() {
        SkewBoard x = Edges.with("t5432/5421:9876");
        Edges.read(x, "f1/:1");
        Edges.boardIs(x, "f1/0:1000");
        Edges.due("row(1, 0)", x.row(1, 0), Edges.UNKNOWN);
    }

    @Says("5: The present board is replaced, and there are no observations then.")
    static void noObservationsThen() {
        SkewBoard x = Edges.with("f1/:1");
        for (int k = 0; k < 6; k++) {
            x.see(k % 2, false);
        }
        Edges.read(x, "f1/:1");
        Edges.due("count(5)", x.count(5), 0);
        Edges.due("sorts(0)", x.sorts(0), 31);
        Edges.due("see(2, true)", x.see(2, true), 1);
    }

    @Says("5: Returns the number of boxes;")
    static void noBoxesAndNine() {
        Edges.accepted("f5555/5555:0", 0);
        Edges.accepted("f4221/:9", 9);
    }

    @Says("5: STATE if the page is not a complete board text")
    static void theEmptyPageIsNoBoard() {
        Edges.due("board()", new SkewBoard().board(), Edges.STATE);
    }

    @Says("5: STATE if the page is not a complete board text")
    static void beginningsAreNoBoards() {
        String text = "l31/30:1";
        for (int end = 0; end < text.length(); end++) {
            Edges.notAccepted(text.substring(0, end));
        }
        Edges.accepted(text, 1);
    }

    @Says("5: STATE if the page is not a complete board text")
    static void textsWithAFaultAreNoBoards() {
        Edges.notAccepted("f3/:1 ");
        Edges.notAccepted(" f3/:1");
        Edges.notAccepted("f3/:1f3/:1");
        Edges.notAccepted("f3/:12345");
        Edges.notAccepted("f3/:1x");
    }

    @Says("5: or there would be more than nine boxes (then nothing changes).")
    static void tenBoxesAreNoBoard() {
        Edges.notAccepted("f4321/:9");
        Edges.notAccepted("f55/:9");
        Edges.notAccepted("f5552/5:9");
        Edges.accepted("f5552/53:9", 9);
    }

    @Says("5: or there would be more than nine boxes (then nothing changes).")
    static void boardsThatAreRefusedChangeNothing() {
        Edges.refused(EdgesOfTextsTest::beforeTenBoxes, "board()", x -> x.board(), Edges.STATE);
        Edges.refused(EdgesOfTextsTest::beforeABeginning, "board()", x -> x.board(), Edges.STATE);
        Edges.refused(x -> Edges.type(x, "f55/:9"), "board()", x -> x.board(), Edges.STATE);
        Edges.refused(x -> Edges.type(x, TWENTY), "board()", x -> x.board(), Edges.STATE);
    }

    private static void beforeTenBoxes(SkewBoard x) {
        Edges.full(x);
        x.blank();
        Edges.type(x, "s4321/:1234");
    }

    private static void beforeABeginning(SkewBoard x) {
        Edges.full(x);
        x.blank();
        Edges.type(x, "s4321/11:");
    }

    // ---- 6

    @Says("6: Returns the number of this filling among the proper fillings,")
    static void theFirstAndTheLastFillingOnThePage() {
        Edges.filling("f22/:1111", "1234", 0);
        Edges.filling("f22/:1111", "3412", 5);
        // the most boxes, and the most fillings that a board can have
        Edges.filling("f3222/:3222", "111223344", 0);
        Edges.filling("f3222/:3222", "344231211", 395);
    }

    @Says("6: and empties the page.")
    static void thePageIsEmptyAfterAFilling() {
        SkewBoard x = Edges.with("f2/:11");
        Edges.type(x, "12");
        x.filling();
        Edges.due("count(6)", x.count(6), 0);
        Edges.due("filling() again", x.filling(), Edges.STATE);
    }

    @Says("6: or NONE if it is not a proper filling;")
    static void fillingsThatBreakTheRule() {
        Edges.filling("f2/:11", "21", Edges.NONE);
        Edges.filling("t2/:11", "12", Edges.NONE);
    }

    @Says("6: or NONE if it is not a proper filling;")
    static void fillingsWithAnotherContent() {
        Edges.filling("f2/:11", "11", Edges.NONE);
        Edges.filling("f2/:11", "44", Edges.NONE);
        Edges.filling("f2/:2001", "11", Edges.NONE);
        Edges.filling("f5/5:1", "", Edges.NONE);
    }

    @Says("6: or NONE if it is not a proper filling;")
    static void thePageIsEmptyAfterNone() {
        SkewBoard x = Edges.with("f2/:11");
        Edges.type(x, "44");
        x.filling();
        Edges.due("count(6)", x.count(6), 0);
    }

    @Says("6: STATE if there is no board or the page is not such a sequence of digits (then nothing changes).")
    static void fillingsWithoutABoard() {
        Edges.due("filling() of an empty page", new SkewBoard().filling(), Edges.STATE);
        Edges.due("filling() of 1", Edges.page("1").filling(), Edges.STATE);
    }

    @Says("6: STATE if there is no board or the page is not such a sequence of digits (then nothing changes).")
    static void oneDigitTooFewOrTooMany() {
        Edges.filling("f3/:3", "", Edges.STATE);
        Edges.filling("f3/:3", "11", Edges.STATE);
        Edges.filling("f3/:3", "111", 0);
        Edges.filling("f3/:3", "1111", Edges.STATE);
        Edges.filling("f5/5:0", "1", Edges.STATE);
    }

    @Says("6: one digit from 1 to 4 for each box,")
    static void digitsBesideOneToFour() {
        for (String digits : new String[] {"011", "110", "115", "511", "119", "11a", " 11", "11/", "1:1"}) {
            Edges.filling("f3/:3", digits, Edges.STATE);
        }
        Edges.filling("f3/:1002", "144", 0);
    }

    @Says("6: one digit from 1 to 4 for each box,")
    static void theEmptyPageIsTheFillingOfNoBoxes() {
        Edges.filling("f5/5:0", "", 0);
    }

    @Says("6: STATE if there is no board or the page is not such a sequence of digits (then nothing changes).")
    static void fillingsThatAreRefusedChangeNothing() {
        Edges.refused(Edges::full, "filling()", x -> x.filling(), Edges.STATE);
        Edges.refused(x -> Edges.type(x, "1"), "filling()", x -> x.filling(), Edges.STATE);
        Edges.refused(EdgesOfTextsTest::beforeADigitTooLarge, "filling()", x -> x.filling(), Edges.STATE);
    }

    private static void beforeADigitTooLarge(SkewBoard x) {
        Edges.full(x);
        x.blank();
        Edges.type(x, "111225");
    }

    // ---- 7

    @Says("7: with all inner lengths and four digits for the content.")
    static void theShortestAndTheLongestText() {
        Edges.boardIs(Edges.with("f1/:0"), "f1/0:0000");
        Edges.boardIs(Edges.with("t5432/5431:9999"), "t5432/5431:9999");
    }

    @Says("7: the index of the character, from 0")
    static void theFirstCharacterIsTheLetterOfTheRule() {
        for (char rule : "fclst".toCharArray()) {
            Edges.due("text(0)", Edges.with(rule + "1/:1").text(0), rule);
        }
    }

    @Says("7: UNKNOWN if there is no such character or no board.")
    static void placesBesideTheText() {
        String[] texts = {"f1/0:1234", "c11/00:1234", "l111/000:1234", "s1111/0000:1234"};
        for (String text : texts) {
            SkewBoard x = Edges.with(text);
            Edges.due("text(-1) of " + text, x.text(-1), Edges.UNKNOWN);
            Edges.due("text(0) of " + text, x.text(0), text.charAt(0));
            Edges.due("the last of " + text, x.text(text.length() - 1), '4');
            Edges.due("behind " + text, x.text(text.length()), Edges.UNKNOWN);
            Edges.due("text(LOW)", x.text(Edges.LOW), Edges.UNKNOWN);
            Edges.due("text(HIGH)", x.text(Edges.HIGH), Edges.UNKNOWN);
        }
    }

    @Says("7: UNKNOWN if there is no such character or no board.")
    static void noTextWithoutABoard() {
        for (int place = -1; place < 16; place++) {
            Edges.due("text(" + place + ")", Edges.page("f1/:1").text(place), Edges.UNKNOWN);
        }
    }
}
