import java.math.BigInteger;

/** The promises 25 to 28. */
public final class EdgesOfStatesTest {
    public static void main(String[] args) {
        Edges.runAll(EdgesOfStatesTest.class);
    }

    // ---- 25

    @Says("25: Saves the board and the observations.")
    static void aBoardWithoutObservationsIsSaved() {
        SkewBoard x = Edges.with("f1/:1");
        x.image();
        x.see(0, true);
        x.restore();
        Edges.due("count(5)", x.count(5), 0);
        Edges.due("sorts(0)", x.sorts(0), 31);
    }

    @Says("25: Saves the board and the observations.")
    static void sixObservationsAreSaved() {
        SkewBoard x = Edges.with("f1/:1");
        for (int k = 0; k < 6; k++) {
            x.see(0, false);
        }
        x.image();
        x.forget();
        x.restore();
        Edges.due("count(5)", x.count(5), 6);
        Edges.due("sorts(0)", x.sorts(0), 8);
        Edges.due("see 7", x.see(0, true), Edges.FULL);
    }

    @Says("25: What was saved before is lost.")
    static void onlyTheLastImageCounts() {
        SkewBoard x = Edges.with("f1/:1");
        x.see(0, true);
        x.image();
        x.grow(0, true);
        x.forget();
        x.image();
        x.grow(0, true);
        Edges.due("restore()", x.restore(), 2);
        Edges.due("count(5)", x.count(5), 0);
    }

    @Says("25: Returns the number of boxes;")
    static void imagesOfNoBoxesAndOfNine() {
        Edges.due("image()", Edges.with("f5/5:0").image(), 0);
        Edges.due("image()", Edges.with("f54/:9").image(), 9);
    }

    @Says("25: STATE if there is no board.")
    static void imageWithoutABoard() {
        SkewBoard x = new SkewBoard();
        Edges.due("image()", x.image(), Edges.STATE);
        Edges.due("restore()", x.restore(), Edges.STATE);
        Edges.read(x, "f1/:1");
        Edges.due("restore() of a board", x.restore(), Edges.STATE);
    }

    @Says("25: Saves the board and the observations.")
    static void whatComesLaterDoesNotReachTheImage() {
        SkewBoard x = Edges.with("c321/1:221");
        x.see(0, true);
        x.image();
        long saved = x.digest();
        x.be(4);
        x.grow(0, true);
        x.cut(0, 2);
        x.give(1, 4);
        x.see(1, false);
        Edges.isTrue("the state is another one", x.digest() != saved);
        x.restore();
        Edges.due("digest()", x.digest(), saved);
    }

    // ---- 26

    @Says("26: Returns the number of boxes then;")
    static void restoreNoBoxesAndNine() {
        SkewBoard x = Edges.with("f5/5:0");
        x.image();
        x.cut(0, 0);
        Edges.due("restore()", x.restore(), 0);
        Edges.due("about(1)", x.about(1), 0);
        Edges.read(x, "f54/:9");
        x.image();
        x.grow(1, false);
        Edges.due("restore()", x.restore(), 9);
        Edges.due("about(1)", x.about(1), 9);
    }

    @Says("26: It stays saved.")
    static void restoreAgainAndAgain() {
        SkewBoard x = Edges.with("f2/:11");
        x.image();
        for (int time = 0; time < 3; time++) {
            x.be(3);
            x.grow(0, true);
            x.give(1, 2);
            Edges.due("restore()", x.restore(), 2);
            Edges.boardIs(x, "f2/0:1100");
        }
        Edges.due("restore() at once", x.restore(), 2);
    }

    @Says("26: Restores what was saved.")
    static void neitherThePageNorTheCountOfBoardsIsRestored() {
        SkewBoard x = Edges.with("f2/:11");
        Edges.type(x, "ab");
        x.image();
        Edges.type(x, "c");
        x.restore();
        Edges.due("count(6)", x.count(6), 3);
        Edges.due("count(7)", x.count(7), 1);
    }

    @Says("26: Restores what was saved.")
    static void fillingsAndTermsAreThoseOfTheSavedBoard() {
        SkewBoard x = Edges.with("l321/21:21");
        x.image();
        x.give(1, 3);
        x.be(0);
        Edges.due("about(4)", x.about(4), 6);
        Edges.due("terms()", x.terms(), 3);
        x.restore();
        Edges.due("about(4) again", x.about(4), 2);
        Edges.due("terms() again", x.terms(), 7);
    }

    @Says("26: STATE if nothing was saved,")
    static void restoreOfNothing() {
        Edges.refused(x -> { }, "restore()", x -> x.restore(), Edges.STATE);
        Edges.refused(x -> Edges.read(x, "f21/:21"), "restore()", x -> x.restore(), Edges.STATE);
    }

    @Says("26: or a board has been read since (also from the same text).")
    static void restoreBehindAnotherBoard() {
        SkewBoard x = Edges.with("f2/:11");
        x.image();
        Edges.read(x, "f3/:11");
        Edges.due("restore()", x.restore(), Edges.STATE);
        Edges.boardIs(x, "f3/0:1100");
    }

    @Says("26: or a board has been read since (also from the same text).")
    static void restoreBehindTheSameText() {
        SkewBoard x = Edges.with("f2/0:1100");
        x.image();
        Edges.read(x, "f2/0:1100");
        Edges.due("restore()", x.restore(), Edges.STATE);
        Edges.due("restore() again", x.restore(), Edges.STATE);
    }

    @Says("26: or a board has been read since (also from the same text).")
    static void aBoardThatWasRefusedHasNotBeenRead() {
        SkewBoard x = Edges.with("f2/:11");
        x.image();
        x.grow(0, true);
        Edges.type(x, "f55/:1");
        Edges.due("board()", x.board(), Edges.STATE);
        Edges.due("restore()", x.restore(), 2);
    }

    @Says("26: or a board has been read since (also from the same text).")
    static void anImageBehindTheNewBoardCanBeRestored() {
        SkewBoard x = Edges.with("f2/:11");
        x.image();
        Edges.read(x, "f3/:11");
        x.image();
        x.grow(0, true);
        Edges.due("restore()", x.restore(), 3);
    }

    @Says("26: or a board has been read since (also from the same text).")
    static void refusedRestoresChangeNothing() {
        Edges.refused(EdgesOfStatesTest::readSinceTheImage, "restore()", x -> x.restore(), Edges.STATE);
    }

    private static void readSinceTheImage(SkewBoard x) {
        Edges.full(x);
        Edges.read(x, "s32/1:112");
        x.see(1, true);
        Edges.type(x, "1234");
    }

    // ---- 27

    @Says("27: Returns the count (0 to 4 are 0 if there is no board);")
    static void countsWithoutABoard() {
        SkewBoard x = Edges.page("f1/:1");
        for (int what = 0; what <= 4; what++) {
            Edges.due("count(" + what + ")", x.count(what), 0);
        }
        Edges.due("count(5)", x.count(5), 0);
        Edges.due("count(6)", x.count(6), 5);
        Edges.due("count(7)", x.count(7), 0);
    }

    @Says("27: Returns the count (0 to 4 are 0 if there is no board);")
    static void theGreatestCounts() {
        Edges.due("boxes", Edges.with("f54/:9").count(0), 9);
        Edges.due("rows", Edges.with("f1111/:9").count(1), 4);
        Edges.due("fillings", Edges.with("f3222/:3222").count(2), 396);
        Edges.due("terms", Edges.with("f5411/541:63").count(3), 54);
        Edges.due("multiplicities", Edges.with("f5311/531:531").count(4), 136);
    }

    @Says("27: Returns the count (0 to 4 are 0 if there is no board);")
    static void theSmallestCountsOfABoard() {
        SkewBoard x = Edges.with("f5/5:9999");
        int[] want = {0, 1, 0, 0, 0, 0, 0, 1};
        for (int what = 0; what <= 7; what++) {
            Edges.due("count(" + what + ")", x.count(what), want[what]);
        }
    }

    @Says("27: 5 observations;")
    static void countsOfNoAndOfSixObservations() {
        SkewBoard x = Edges.with("f1/:1");
        for (int k = 0; k <= 6; k++) {
            Edges.due("count(5)", x.count(5), k);
            x.see(k % 4, true);
        }
        Edges.due("count(5) behind the refused one", x.count(5), 6);
    }

    @Says("27: 6 characters of the page;")
    static void countsOfTheEmptyAndTheFullPage() {
        SkewBoard x = new SkewBoard();
        Edges.due("count(6)", x.count(6), 0);
        Edges.type(x, "abcdefghijklmnopqrstuvw");
        Edges.due("count(6)", x.count(6), 20);
    }

    @Says("27: 7 how many times a board was read")
    static void onlyBoardsThatWereReadCount() {
        SkewBoard x = new SkewBoard();
        x.board();
        Edges.due("none", x.count(7), 0);
        Edges.read(x, "f1/:1");
        Edges.due("one", x.count(7), 1);
        x.image();
        x.restore();
        Edges.due("restore() reads none", x.count(7), 1);
        Edges.type(x, "1");
        x.filling();
        Edges.due("filling() reads none", x.count(7), 1);
        Edges.read(x, "f1/:1");
        Edges.due("the same again", x.count(7), 2);
    }

    @Says("27: OUTSIDE if what is not 0 to 7.")
    static void countBesideZeroToSeven() {
        for (int what : new int[] {-1, 8, Edges.LOW, Edges.HIGH}) {
            Edges.due("count(" + what + ")", Edges.with("f1/:1").count(what), Edges.OUTSIDE);
            Edges.due("count(" + what + ") without a board", new SkewBoard().count(what), Edges.OUTSIDE);
        }
    }

    // ---- 28

    /** The checksum without a wrap, brought into the range of long in the end. */
    private static long checksum(String numbers) {
        BigInteger h = BigInteger.valueOf(1471);
        for (String number : numbers.trim().split("\\s+")) {
            h = h.multiply(BigInteger.valueOf(31)).add(new BigInteger(number));
        }
        return h.longValue();
    }

    private static String codes(String signs) {
        StringBuilder text = new StringBuilder();
        for (char sign : signs.toCharArray()) {
            text.append((int) sign).append(' ');
        }
        return text.toString();
    }

    @Says("28: sets h = 31 * h + v in long arithmetic, which wraps.")
    static void theChecksumWraps() {
        SkewBoard x = Edges.page("~~~~~~~~~~~~~~~~~~~~");
        String numbers = "31 1 " + codes("~~~~~~~~~~~~~~~~~~~~") + "0 0 0 0 0 0 20 0";
        Edges.due("digest()", x.digest(), checksum(numbers));
    }

    @Says("28: It starts with h = 1471")
    static void theChecksumOfANewObject() {
        // ten numbers do not wrap yet
        long h = 1471;
        for (int v : new int[] {31, 1, 0, 0, 0, 0, 0, 0, 0, 0}) {
            h = 31 * h + v;
        }
        Edges.isTrue("it does not wrap", h > 0);
        Edges.due("digest()", new SkewBoard().digest(), h);
        Edges.due("digest()", new SkewBoard().digest(), checksum("31 1 0 0 0 0 0 0 0 0"));
    }

    @Says("28: if there is a board: about(0) to about(4);")
    static void theChecksumOfABoardWithoutBoxesAndTerms() {
        Edges.due("digest()", Edges.with("t5/5:9999").digest(), checksum(
            "4 0 1 36 0 " + codes("t5/5:9999") + "31 1  0 1 0 0 0 0 0 1"));
    }

    @Says("28: for each of the first three proper fillings (or all, if there are fewer) its number in each box,")
    static void theChecksumOfNoFilling() {
        Edges.due("digest()", Edges.with("c1/:2").digest(), checksum(
            "1 1 1 2 0 " + codes("c1/0:2000") + " 2 0 0 0 1  31 1  1 1 0 1 1 0 0 1"));
    }

    @Says("28: for each of the first three proper fillings (or all, if there are fewer) its number in each box,")
    static void theChecksumOfTheEmptyFilling() {
        Edges.due("digest()", Edges.with("s2/2:0").digest(), checksum(
            "3 0 1 0 1 " + codes("s2/2:0000") + " 0 0 0 0 0 2 2 2 2 2  2 0 0 0 1  31 1  0 1 1 1 1 0 0 1"));
    }

    @Says("28: for each of the first three proper fillings (or all, if there are fewer) its number in each box,")
    static void theChecksumOfTwoFillings() {
        Edges.due("digest()", Edges.with("f11/:11").digest(), checksum(
            "0 2 2 2 2 " + codes("f11/00:1100")
            + " 1 2  0 0 0 0 0  0 1 1 1 1  0 1 2 2 2"
            + " 2 1  0 0 0 0 0  0 0 1 1 1  0 1 2 2 2"
            + " 1 1 0 0 1  31 1  2 2 2 1 1 0 0 1"));
    }

    private static final String THREE = " 1 1 2  0 0 0 0 0  0 1 1 1 1  0 2 2 2 2  0 2 3 3 3"
        + " 1 2 1  0 0 0 0 0  0 1 1 1 1  0 1 2 2 2  0 2 3 3 3"
        + " 2 1 1  0 0 0 0 0  0 0 1 1 1  0 1 2 2 2  0 2 3 3 3";

    @Says("28: for each of the first three proper fillings (or all, if there are fewer) its number in each box,")
    static void theChecksumOfThreeFillings() {
        Edges.due("digest()", Edges.with("f111/:21").digest(), checksum(
            "0 3 3 3 3 " + codes("f111/000:2100") + THREE + " 2 1 0 0 1  31 1  3 3 3 1 1 0 0 1"));
    }

    @Says("28: for each of the first three proper fillings (or all, if there are fewer) its number in each box,")
    static void theChecksumOfFourFillings() {
        // three rows with one box, and a row with two: 1 1 1 1 and 2 in all orders, but for 2 1 in a row
        Edges.due("digest()", Edges.with("f2111/:41").digest(), checksum(
            "0 5 4 5 4 " + codes("f2111/0000:4100")
            + " 1 1 1 1 2  0 0 0 0 0  0 2 2 2 2  0 3 3 3 3  0 4 4 4 4  0 4 5 5 5"
            + " 1 1 1 2 1  0 0 0 0 0  0 2 2 2 2  0 3 3 3 3  0 3 4 4 4  0 4 5 5 5"
            + " 1 1 2 1 1  0 0 0 0 0  0 2 2 2 2  0 2 3 3 3  0 3 4 4 4  0 4 5 5 5"
            + " 4 1 0 0 1  31 1  5 4 4 1 1 0 0 1"));
    }

    @Says("28: for each term what term() returns for 0 to 4;")
    static void theChecksumOfSeveralTerms() {
        Edges.due("digest()", Edges.with("f5/5:01").digest(), checksum(
            "0 0 1 1 0 " + codes("f5/5:0100") + "31 1  0 1 0 0 0 0 0 1"));
        Edges.due("digest()", Edges.with("f5/5:1").digest(), checksum(
            "0 0 1 1 0 " + codes("f5/5:1000") + " 6 0 0 0 1  5 1 0 0 1  31 1  0 1 0 2 2 0 0 1"));
    }

    @Says("28: sorts(0) and sorts(1);")
    static void theChecksumWithNone() {
        SkewBoard x = Edges.with("f5/5:01");
        x.see(0, true);
        x.see(0, false);
        Edges.due("digest()", x.digest(), checksum(
            "0 0 1 1 0 " + codes("f5/5:0100") + "0 -1  0 1 0 0 0 2 0 1"));
    }

    @Says("28: the codes of the characters of the page;")
    static void theChecksumOfTheEmptyAndTheFullPage() {
        Edges.due("digest()", new SkewBoard().digest(), checksum("31 1 0 0 0 0 0 0 0 0"));
        String full = " !/09:@AZ[`az{|}~ ~ ";
        Edges.due("digest()", Edges.page(full).digest(), checksum("31 1 " + codes(full) + "0 0 0 0 0 0 20 0"));
    }

    @Says("28: count(0) to count(7).")
    static void theChecksumWithTheCounts() {
        SkewBoard x = Edges.with("f5/5:01");
        Edges.read(x, "f5/5:01");
        x.see(0, true);
        x.letter('!');
        Edges.due("digest()", x.digest(), checksum(
            "0 0 1 1 0 " + codes("f5/5:0100") + "23 1  33  0 1 0 0 0 1 1 2"));
    }

    @Says("28: Computes a checksum of the state.")
    static void theChecksumChangesNothing() {
        SkewBoard x = new SkewBoard();
        Edges.full(x);
        Edges.due("digest() again", x.digest(), x.digest());
        Edges.due("restore()", x.restore(), 6);
        Edges.boardIs(x, "c321/000:3210");
    }
}
