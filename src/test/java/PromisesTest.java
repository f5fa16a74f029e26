/** Each promise of the document by itself: ordinary inputs, the edges it names, wrong inputs. */
public final class PromisesTest {
    private static final int NONE = -1;
    private static final int UNKNOWN = -101;
    private static final int OUTSIDE = -102;
    private static final int STATE = -103;
    private static final int FULL = -104;
    private static final int LOW = Integer.MIN_VALUE;
    private static final int HIGH = Integer.MAX_VALUE;

    private static final Checks CHECKS = new Checks();

    public static void main(String[] args) {
        constants();
        newObject();
        letter();
        blank();
        fault();
        board();
        filling();
        text();
        about();
        as();
        row();
        content();
        box();
        be();
        grow();
        cut();
        give();
        way();
        rulesCountFillings();
        hive();
        terms();
        term();
        see();
        forget();
        sorts();
        drawn();
        image();
        restore();
        count();
        digest();
        CHECKS.end("PromisesTest");
    }

    private static void due(String call, long got, long want) {
        CHECKS.due(call, got, want);
    }

    private static void type(SkewBoard x, String text) {
        for (int k = 0; k < text.length(); k++) {
            x.letter(text.charAt(k));
        }
    }

    /** A new object with the board of the text. */
    private static SkewBoard with(String text) {
        SkewBoard x = new SkewBoard();
        read(x, text);
        return x;
    }

    private static void read(SkewBoard x, String text) {
        x.blank();
        type(x, text);
        CHECKS.isTrue("a board from " + text, x.board() >= 0);
    }

    private static void textIs(SkewBoard x, String want) {
        for (int k = 0; k < want.length(); k++) {
            due("text(" + k + ") of " + want, x.text(k), want.charAt(k));
        }
        due("text behind " + want, x.text(want.length()), UNKNOWN);
    }

    private static void wayIs(SkewBoard x, int way, String want) {
        for (int k = 0; k < want.length(); k++) {
            due("way(" + way + ", " + k + ") of " + want, x.way(way, k), want.charAt(k) - '0');
        }
        due("way behind " + want, x.way(way, want.length()), UNKNOWN);
    }

    private static void termIs(SkewBoard x, int term, int... want) {
        for (int what = 0; what < want.length; what++) {
            due("term(" + term + ", " + what + ")", x.term(term, what), want[what]);
        }
    }

    /** A call that returns an error changes nothing: the digest sees nearly all of the state. */
    private static void refused(SkewBoard x, String call, long before, long got, long want) {
        due(call, got, want);
        due("digest after " + call, x.digest(), before);
    }

    private static void constants() {
        due("NONE", SkewBoard.NONE, NONE);
        due("UNKNOWN", SkewBoard.UNKNOWN, UNKNOWN);
        due("OUTSIDE", SkewBoard.OUTSIDE, OUTSIDE);
        due("STATE", SkewBoard.STATE, STATE);
        due("FULL", SkewBoard.FULL, FULL);
    }

    private static void newObject() {
        SkewBoard x = new SkewBoard();
        for (int what = 0; what < 8; what++) {
            due("new: count(" + what + ")", x.count(what), 0);
        }
        due("new: about(0)", x.about(0), STATE);
        due("new: restore()", x.restore(), STATE);
        due("new: sorts(0)", x.sorts(0), 31);
        due("new: sorts(1)", x.sorts(1), 1);
        SkewBoard y = with("f1/:1");
        y.letter('x');
        due("objects are apart: count(0)", x.count(0), 0);
        due("objects are apart: count(6)", x.count(6), 0);
    }

    private static void letter() {
        SkewBoard x = new SkewBoard();
        due("letter(31)", x.letter(31), OUTSIDE);
        due("letter(127)", x.letter(127), OUTSIDE);
        due("letter(LOW)", x.letter(LOW), OUTSIDE);
        due("letter(HIGH)", x.letter(HIGH), OUTSIDE);
        due("letter(32)", x.letter(32), 1);
        due("letter(126)", x.letter(126), 2);
        for (int k = 3; k <= 20; k++) {
            due("letter " + k, x.letter('a'), k);
        }
        refused(x, "letter 21", x.digest(), x.letter('a'), FULL);
        due("letter(31) on a full page", x.letter(31), OUTSIDE);
        due("count(6)", x.count(6), 20);
    }

    private static void blank() {
        SkewBoard x = new SkewBoard();
        due("blank of nothing", x.blank(), 0);
        type(x, "abc");
        due("blank of three", x.blank(), 3);
        due("blank again", x.blank(), 0);
        due("count(6) after blank", x.count(6), 0);
        due("letter after blank", x.letter('a'), 1);
    }

    private static void faultOf(String text, int want) {
        SkewBoard x = new SkewBoard();
        type(x, text);
        long before = x.digest();
        refused(x, "fault of '" + text + "'", before, x.fault(), want);
    }

    private static void fault() {
        for (String whole : new String[] {"f1/:0", "c5432/5432:9999", "l5555/:1", "s33/30:12", "t5/5:0000"}) {
            for (int end = 0; end <= whole.length(); end++) {
                faultOf(whole.substring(0, end), end);
            }
        }
        faultOf("F1/:0", 0);
        faultOf(" f1/:0", 0);
        faultOf("1", 0);
        faultOf("f/", 1);
        faultOf("f0", 1);
        faultOf("f6", 1);
        faultOf("f:", 1);
        faultOf("f12", 2);
        faultOf("f1:", 2);
        faultOf("f11111", 5);
        faultOf("f1111:", 5);
        faultOf("f3//", 3);
        faultOf("f3/4", 3);
        faultOf("f53/54", 5);
        faultOf("f53/53", 6);
        faultOf("f53/23", 5);
        faultOf("f33/01", 5);
        faultOf("f3/00", 4);
        faultOf("f33/333", 6);
        faultOf("f3/a", 3);
        faultOf("f3/::", 4);
        faultOf("f3/:/", 4);
        faultOf("f3/: ", 4);
        faultOf("f3/:12345", 8);
        faultOf("f5555/:9", 8);
        faultOf("f3/:1zzzzzzzzzzzzzzz", 5);
    }

    private static void boardRefuses(String text) {
        SkewBoard x = with("c21/:111");
        x.see(1, true);
        x.image();
        type(x, text);
        refused(x, "board of '" + text + "'", x.digest(), x.board(), STATE);
        due("restore still possible", x.restore(), 3);
    }

    private static void board() {
        for (String text : new String[] {"", "f", "f3", "f3/", "f3/:", "f3/1", "3/:1", "f3/:12345", "f3/4:1",
                "f12/:1", "f55/:9", "f4321/:1234", "f0/:1", "f3/:1 "}) {
            boardRefuses(text);
        }
        SkewBoard x = new SkewBoard();
        type(x, "f54/:9");
        due("board of nine boxes", x.board(), 9);
        due("the page is empty then", x.count(6), 0);
        textIs(x, "f54/00:9000");
        x.see(1, true);
        type(x, "t432/3:0102");
        due("the next board", x.board(), 6);
        due("no observations then", x.count(5), 0);
        due("all kinds then", x.sorts(0), 31);
        due("two boards were read", x.count(7), 2);
        textIs(x, "t432/300:0102");
        type(x, "s5/5:0");
        due("board without boxes", x.board(), 0);
        due("row(0, 1)", x.row(0, 1), 5);
        due("no second row", x.row(1, 0), UNKNOWN);
    }

    private static void filling() {
        SkewBoard x = new SkewBoard();
        due("filling without a board", x.filling(), STATE);
        type(x, "1");
        due("filling on the page without a board", x.filling(), STATE);
        read(x, "f22/:1111");
        String[] ways = {"1234", "1324", "1423", "2314", "2413", "3412"};
        for (int way = 0; way < ways.length; way++) {
            type(x, ways[way]);
            due("filling " + ways[way], x.filling(), way);
            due("the page is empty then", x.count(6), 0);
        }
        for (String other : new String[] {"2134", "1111", "4444", "1243"}) {
            type(x, other);
            due("filling " + other, x.filling(), NONE);
            due("the page is empty then, too", x.count(6), 0);
        }
        for (String no : new String[] {"", "123", "12341", "1230", "1235", "123a", "/234", ":234"}) {
            x.blank();
            type(x, no);
            refused(x, "filling '" + no + "'", x.digest(), x.filling(), STATE);
        }
        read(x, "f1/1:0");
        due("the empty filling", x.filling(), 0);
        read(x, "f1/1:1");
        due("the empty filling, not proper", x.filling(), NONE);
    }

    private static void text() {
        SkewBoard x = new SkewBoard();
        due("text(0) without a board", x.text(0), UNKNOWN);
        String[] shorts = {"f5/:1", "c32/1:12", "l432/32:123", "s3211/1111:1234"};
        String[] wholes = {"f5/0:1000", "c32/10:1200", "l432/320:1230", "s3211/1111:1234"};
        for (int k = 0; k < wholes.length; k++) {
            read(x, shorts[k]);
            textIs(x, wholes[k]);
            due("text(-1)", x.text(-1), UNKNOWN);
            due("text(LOW)", x.text(LOW), UNKNOWN);
            due("text(HIGH)", x.text(HIGH), UNKNOWN);
        }
        x.be(4);
        x.cut(0, 2);
        x.give(4, 1);
        x.grow(2, true);
        textIs(x, "t3221/2111:2233");
    }

    private static void about() {
        SkewBoard x = new SkewBoard();
        due("about(-1)", x.about(-1), OUTSIDE);
        due("about(5)", x.about(5), OUTSIDE);
        for (int what = 0; what < 5; what++) {
            due("about(" + what + ") without a board", x.about(what), STATE);
        }
        read(x, "s431/2:0239");
        int[] want = {3, 6, 3, 14, 0};
        for (int what = 0; what < 5; what++) {
            due("about(" + what + ")", x.about(what), want[what]);
        }
        due("about(LOW)", x.about(LOW), OUTSIDE);
        due("about(HIGH)", x.about(HIGH), OUTSIDE);
        read(x, "f3222/:3222");
        due("the most fillings that there can be", x.about(4), 396);
    }

    private static void as() {
        SkewBoard x = new SkewBoard();
        due("as(0) without a board", x.as(0), STATE);
        due("as(-1) without a board", x.as(-1), OUTSIDE);
        due("as(5) without a board", x.as(5), OUTSIDE);
        read(x, "f1/:1");
        int[][] casts = {
            {0, NONE, NONE, NONE, NONE},
            {1, 1, NONE, NONE, NONE},
            {2, 2, 2, NONE, NONE},
            {3, NONE, NONE, 3, NONE},
            {4, NONE, NONE, NONE, 4},
        };
        for (int own = 0; own < 5; own++) {
            x.be(own);
            for (int kind = 0; kind < 5; kind++) {
                due("kind " + own + " as(" + kind + ")", x.as(kind), casts[own][kind]);
            }
        }
        due("as(LOW)", x.as(LOW), OUTSIDE);
        due("as(HIGH)", x.as(HIGH), OUTSIDE);
    }

    private static void row() {
        SkewBoard x = new SkewBoard();
        due("row(0, 0) without a board", x.row(0, 0), UNKNOWN);
        due("row(0, 2) without a board", x.row(0, 2), UNKNOWN);
        read(x, "f5431/431:1");
        int[] outer = {5, 4, 3, 1};
        int[] inner = {4, 3, 1, 0};
        for (int r = 0; r < 4; r++) {
            due("row(" + r + ", 0)", x.row(r, 0), outer[r]);
            due("row(" + r + ", 1)", x.row(r, 1), inner[r]);
        }
        due("row(-1, 0)", x.row(-1, 0), UNKNOWN);
        due("row(4, 0)", x.row(4, 0), UNKNOWN);
        due("row(4, 9)", x.row(4, 9), UNKNOWN);
        due("row(HIGH, 0)", x.row(HIGH, 0), UNKNOWN);
        due("row(LOW, 0)", x.row(LOW, 0), UNKNOWN);
        due("row(0, -1)", x.row(0, -1), OUTSIDE);
        due("row(0, 2)", x.row(0, 2), OUTSIDE);
    }

    private static void content() {
        SkewBoard x = new SkewBoard();
        due("content(1) without a board", x.content(1), STATE);
        due("content(0) without a board", x.content(0), OUTSIDE);
        read(x, "f1/:907");
        int[] want = {9, 0, 7, 0};
        for (int number = 1; number <= 4; number++) {
            due("content(" + number + ")", x.content(number), want[number - 1]);
        }
        due("content(0)", x.content(0), OUTSIDE);
        due("content(5)", x.content(5), OUTSIDE);
        due("content(LOW)", x.content(LOW), OUTSIDE);
        due("content(HIGH)", x.content(HIGH), OUTSIDE);
    }

    private static void box() {
        SkewBoard x = new SkewBoard();
        due("box(0, 0) without a board", x.box(0, 0), UNKNOWN);
        read(x, "f5331/332:1");
        int[] rows = {0, 0, 2, 3};
        int[] columns = {3, 4, 2, 0};
        for (int b = 0; b < 4; b++) {
            due("box(" + b + ", 0)", x.box(b, 0), rows[b]);
            due("box(" + b + ", 1)", x.box(b, 1), columns[b]);
        }
        due("box(4, 0)", x.box(4, 0), UNKNOWN);
        due("box(4, 2)", x.box(4, 2), UNKNOWN);
        due("box(-1, 0)", x.box(-1, 0), UNKNOWN);
        due("box(LOW, 0)", x.box(LOW, 0), UNKNOWN);
        due("box(HIGH, 0)", x.box(HIGH, 0), UNKNOWN);
        due("box(0, 2)", x.box(0, 2), OUTSIDE);
        due("box(0, -1)", x.box(0, -1), OUTSIDE);
        x.grow(0, false);
        due("box(1, 0) after grow", x.box(1, 0), 2);
    }

    private static void be() {
        SkewBoard x = new SkewBoard();
        due("be(0) without a board", x.be(0), STATE);
        due("be(5) without a board", x.be(5), OUTSIDE);
        read(x, "s2/:2");
        due("be(1)", x.be(1), 3);
        due("be(1) again", x.be(1), 1);
        due("about(0)", x.about(0), 1);
        due("about(4)", x.about(4), 1);
        due("be(3)", x.be(3), 1);
        due("about(4) strict", x.about(4), 0);
        refused(x, "be(-1)", x.digest(), x.be(-1), OUTSIDE);
        refused(x, "be(5)", x.digest(), x.be(5), OUTSIDE);
        x.see(0, true);
        x.be(0);
        due("observations stay", x.count(5), 1);
    }

    private static void grow() {
        SkewBoard x = new SkewBoard();
        due("grow without a board", x.grow(0, true), UNKNOWN);
        read(x, "f32/21:11");
        due("grow(-1, true)", x.grow(-1, true), UNKNOWN);
        due("grow(2, true)", x.grow(2, true), UNKNOWN);
        due("grow(HIGH, true)", x.grow(HIGH, true), UNKNOWN);
        due("grow(1, true)", x.grow(1, true), 3);
        refused(x, "longer than above", x.digest(), x.grow(1, true), STATE);
        refused(x, "shorter than below", x.digest(), x.grow(0, false), STATE);
        due("grow(1, false)", x.grow(1, false), 2);
        due("grow(1, false) to the inner length", x.grow(1, false), 1);
        refused(x, "less than the inner length", x.digest(), x.grow(1, false), STATE);
        due("grow(0, true) to 4", x.grow(0, true), 2);
        due("grow(0, true) to 5", x.grow(0, true), 3);
        refused(x, "above 5", x.digest(), x.grow(0, true), STATE);
        textIs(x, "f51/21:1100");
        read(x, "f1/:1");
        refused(x, "to 0", x.digest(), x.grow(0, false), STATE);
        read(x, "f44/:1");
        due("grow to nine", x.grow(0, true), 9);
        refused(x, "beyond nine", x.digest(), x.grow(1, true), FULL);
        read(x, "f333/:1");
        refused(x, "STATE comes before FULL", x.digest(), x.grow(1, true), STATE);
        refused(x, "FULL", x.digest(), x.grow(0, true), FULL);
    }

    private static void cut() {
        SkewBoard x = new SkewBoard();
        due("cut without a board", x.cut(0, 0), UNKNOWN);
        read(x, "f543/21:11");
        due("cut(-1, 0)", x.cut(-1, 0), UNKNOWN);
        due("cut(3, 0)", x.cut(3, 0), UNKNOWN);
        due("cut(LOW, 9)", x.cut(LOW, 9), UNKNOWN);
        for (int inner : new int[] {-1, 6, LOW, HIGH, 0}) {
            refused(x, "cut(0, " + inner + ")", x.digest(), x.cut(0, inner), STATE);
        }
        refused(x, "more than above", x.digest(), x.cut(1, 3), STATE);
        refused(x, "FULL", x.digest(), x.cut(1, 0), FULL);
        due("cut(0, 5)", x.cut(0, 5), 2);
        due("no boxes in row 0 then", x.box(0, 0), 1);
        due("cut(1, 4)", x.cut(1, 4), 1);
        refused(x, "more than the outer length", x.digest(), x.cut(2, 4), STATE);
        due("cut(2, 3)", x.cut(2, 3), 0);
        due("no boxes", x.about(1), 0);
        refused(x, "less than below", x.digest(), x.cut(1, 2), STATE);
        due("the same again", x.cut(1, 4), 4);
        textIs(x, "f543/543:1100");
        read(x, "f555/550:1");
        refused(x, "STATE comes before FULL", x.digest(), x.cut(0, 0), STATE);
        read(x, "f55/55:1");
        refused(x, "less than below, with few boxes", x.digest(), x.cut(0, 0), STATE);
        due("cut(1, 0)", x.cut(1, 0), 5);
        refused(x, "ten boxes", x.digest(), x.cut(0, 0), FULL);
    }

    private static void give() {
        SkewBoard x = new SkewBoard();
        due("give without a board", x.give(1, 2), STATE);
        due("give(0, 1) without a board", x.give(0, 1), OUTSIDE);
        read(x, "f21/:3098");
        for (int no : new int[] {0, 5, -1, LOW, HIGH}) {
            refused(x, "give(" + no + ", 1)", x.digest(), x.give(no, 1), OUTSIDE);
            refused(x, "give(1, " + no + ")", x.digest(), x.give(1, no), OUTSIDE);
        }
        refused(x, "none to give", x.digest(), x.give(2, 1), STATE);
        refused(x, "STATE comes before FULL", x.digest(), x.give(2, 3), STATE);
        refused(x, "none to give to itself", x.digest(), x.give(2, 2), STATE);
        refused(x, "nine there", x.digest(), x.give(1, 3), FULL);
        refused(x, "nine there, to itself", x.digest(), x.give(3, 3), FULL);
        refused(x, "to itself", x.digest(), x.give(4, 4), 8);
        due("give(3, 4)", x.give(3, 4), 9);
        due("give(1, 2)", x.give(1, 2), 1);
        textIs(x, "f21/00:2189");
    }

    private static void way() {
        SkewBoard x = new SkewBoard();
        due("way without a board", x.way(0, 0), UNKNOWN);
        read(x, "f22/:1111");
        wayIs(x, 0, "1234");
        wayIs(x, 3, "2314");
        wayIs(x, 5, "3412");
        due("way(6, 0)", x.way(6, 0), UNKNOWN);
        due("way(-1, 0)", x.way(-1, 0), UNKNOWN);
        due("way(LOW, 0)", x.way(LOW, 0), UNKNOWN);
        due("way(HIGH, 0)", x.way(HIGH, 0), UNKNOWN);
        due("way(0, -1)", x.way(0, -1), UNKNOWN);
        due("way(0, LOW)", x.way(0, LOW), UNKNOWN);
        due("way(0, HIGH)", x.way(0, HIGH), UNKNOWN);
        x.be(1);
        wayIs(x, 1, "1324");
        due("way(2, 0)", x.way(2, 0), UNKNOWN);
        read(x, "l321/21:21");
        wayIs(x, 0, "112");
        wayIs(x, 1, "121");
        due("lattice: way(2, 0)", x.way(2, 0), UNKNOWN);
        read(x, "f54/:2223");
        wayIs(x, 0, "112233444");
    }

    private static void ways(String text, int want) {
        due("fillings of " + text, with(text).about(4), want);
    }

    private static void rulesCountFillings() {
        ways("f2/:11", 1);
        ways("t2/:11", 1);
        ways("t2/:2", 1);
        ways("t22/:22", 1);
        ways("t22/:121", 1);
        ways("s2/:2", 0);
        ways("f11/:11", 2);
        ways("f11/:2", 1);
        ways("c11/:11", 1);
        ways("c11/:2", 0);
        ways("s11/:2", 1);
        ways("s11/:11", 1);
        ways("t11/:11", 1);
        ways("t11/:2", 0);
        ways("l1/:01", 0);
        ways("c1/:01", 1);
        ways("l1/:1", 1);
        ways("l2/:11", 0);
        ways("l21/1:11", 1);
        ways("c21/1:11", 2);
        ways("l1111/:1111", 1);
        ways("l1111/:2", 0);
        ways("l32/2:2001", 0);
        ways("l3321/221:1111", 1);
        ways("l4321/321:22", 2);
        ways("l432/2:32", 0);
        ways("l432/21:222", 1);
        ways("l432/21:321", 2);
        ways("c21/:111", 2);
        ways("c321/:2211", 4);
        ways("f1/1:0", 1);
        ways("f1/1:1", 0);
        ways("f1/:0", 0);
        ways("f1/:2", 0);
    }

    private static void hive() {
        SkewBoard x = new SkewBoard();
        due("hive without a board", x.hive(0, 0, 0), UNKNOWN);
        due("hive without a board, out of range", x.hive(0, 9, 9), UNKNOWN);
        read(x, "l321/21:21");
        int[][] first = {{0, 0, 0, 0, 0}, {2, 3, 3, 3, 3}, {3, 5, 5, 5, 5}, {3, 5, 6, 6, 6}};
        int[][] second = {{0, 0, 0, 0, 0}, {2, 3, 3, 3, 3}, {3, 4, 5, 5, 5}, {3, 5, 6, 6, 6}};
        for (int i = 0; i <= 3; i++) {
            for (int j = 0; j <= 4; j++) {
                due("hive(0, " + i + ", " + j + ")", x.hive(0, i, j), first[i][j]);
                due("hive(1, " + i + ", " + j + ")", x.hive(1, i, j), second[i][j]);
            }
        }
        due("hive(2, 0, 0)", x.hive(2, 0, 0), UNKNOWN);
        due("hive(2, 9, 9)", x.hive(2, 9, 9), UNKNOWN);
        due("hive(-1, 0, 0)", x.hive(-1, 0, 0), UNKNOWN);
        for (int no : new int[] {-1, 5, LOW, HIGH}) {
            due("hive(0, " + no + ", 0)", x.hive(0, no, 0), OUTSIDE);
            due("hive(0, 0, " + no + ")", x.hive(0, 0, no), OUTSIDE);
        }
        due("hive(0, 4, 0)", x.hive(0, 4, 0), OUTSIDE);
    }

    private static void terms() {
        SkewBoard x = new SkewBoard();
        due("terms without a board", x.terms(), STATE);
        read(x, "f321/21:21");
        due("terms", x.terms(), 7);
        x.be(4);
        x.grow(0, true);
        due("the rule and the outer lengths do not matter", x.terms(), 7);
        x.give(2, 1);
        due("terms of 21 by 3", x.terms(), 4);
        x.cut(1, 0);
        due("terms of 2 by 3", x.terms(), 3);
        read(x, "f1/:55");
        due("more than nine numbers", x.terms(), 0);
        read(x, "f1/:01");
        due("no partition", x.terms(), 0);
        read(x, "f54/54:0");
        due("no numbers", x.terms(), 1);
        read(x, "f5/5:9");
        due("5 by 9", x.terms(), 6);
    }

    private static void term() {
        SkewBoard x = new SkewBoard();
        due("term without a board", x.term(0, 0), UNKNOWN);
        due("term without a board, out of range", x.term(0, 9), UNKNOWN);
        read(x, "f321/21:21");
        termIs(x, 0, 4, 2, 0, 0, 1);
        termIs(x, 1, 4, 1, 1, 0, 1);
        termIs(x, 2, 3, 3, 0, 0, 1);
        termIs(x, 3, 3, 2, 1, 0, 2);
        termIs(x, 4, 3, 1, 1, 1, 1);
        termIs(x, 5, 2, 2, 2, 0, 1);
        termIs(x, 6, 2, 2, 1, 1, 1);
        due("term(7, 0)", x.term(7, 0), UNKNOWN);
        due("term(7, 5)", x.term(7, 5), UNKNOWN);
        due("term(-1, 0)", x.term(-1, 0), UNKNOWN);
        due("term(LOW, 0)", x.term(LOW, 0), UNKNOWN);
        due("term(HIGH, 0)", x.term(HIGH, 0), UNKNOWN);
        due("term(0, -1)", x.term(0, -1), OUTSIDE);
        due("term(0, 5)", x.term(0, 5), OUTSIDE);
        read(x, "f5/5:9");
        termIs(x, 0, 14, 0, 0, 0, 1);
        termIs(x, 5, 9, 5, 0, 0, 1);
        read(x, "f1/:1111");
        termIs(x, 0, 1, 1, 1, 1, 1);
        due("term(1, 0)", x.term(1, 0), UNKNOWN);
        read(x, "f5555/5543:0");
        termIs(x, 0, 5, 5, 4, 3, 1);
    }

    private static void see() {
        SkewBoard x = new SkewBoard();
        due("see(4, true) without a board", x.see(4, true), OUTSIDE);
        due("see(0, true) without a board", x.see(0, true), STATE);
        read(x, "f1/:1");
        for (int no : new int[] {-1, 4, LOW, HIGH}) {
            refused(x, "see(" + no + ", true)", x.digest(), x.see(no, true), OUTSIDE);
        }
        for (int k = 1; k <= 6; k++) {
            due("see " + k, x.see(0, true), k);
            due("count(5)", x.count(5), k);
        }
        refused(x, "see 7", x.digest(), x.see(0, false), FULL);
        due("OUTSIDE comes before FULL", x.see(4, false), OUTSIDE);
        due("sorts(0)", x.sorts(0), 23);
    }

    private static void forget() {
        SkewBoard x = new SkewBoard();
        due("forget without a board", x.forget(), 0);
        read(x, "f1/:1");
        due("forget nothing", x.forget(), 0);
        x.see(0, true);
        x.see(2, true);
        due("forget two", x.forget(), 2);
        due("count(5)", x.count(5), 0);
        due("sorts(0)", x.sorts(0), 31);
        due("see after forget", x.see(1, true), 1);
    }

    private static void sorts() {
        SkewBoard x = with("f1/:1");
        for (int no : new int[] {-1, 2, LOW, HIGH}) {
            due("sorts(" + no + ")", x.sorts(no), OUTSIDE);
        }
        int[] can = {23, 9, 16, 27};
        int[] nextIfCan = {1, 0, 0, 1};
        int[] nextIfNot = {0, 2, 1, 0};
        for (int what = 0; what < 4; what++) {
            x.forget();
            x.see(what, true);
            due("sorts(0), " + what + " can be", x.sorts(0), can[what]);
            due("sorts(1), " + what + " can be", x.sorts(1), nextIfCan[what]);
            x.forget();
            x.see(what, false);
            due("sorts(0), " + what + " cannot be", x.sorts(0), 31 - can[what]);
            due("sorts(1), " + what + " cannot be", x.sorts(1), nextIfNot[what]);
        }
        x.forget();
        x.see(1, false);
        x.see(2, false);
        due("sorts(0), columns and lattice", x.sorts(0), 6);
        due("sorts(1), columns and lattice", x.sorts(1), 3);
        x.see(3, false);
        due("sorts(0), lattice", x.sorts(0), 4);
        due("sorts(1), lattice", x.sorts(1), 0);
        x.see(1, true);
        due("sorts(0), none", x.sorts(0), 0);
        due("sorts(1), none", x.sorts(1), NONE);
        due("sorts(2), none", x.sorts(2), OUTSIDE);
    }

    private static void drawn() {
        SkewBoard x = new SkewBoard();
        due("drawn without a board", x.drawn(1, 0, 0), STATE);
        due("drawn without a board, out of range", x.drawn(0, 0, 0), OUTSIDE);
        read(x, "f1/:1");
        for (int no : new int[] {0, 101, -1, LOW, HIGH}) {
            due("drawn(" + no + ", 1, 0)", x.drawn(no, 1, 0), OUTSIDE);
        }
        for (int no : new int[] {-1, LOW}) {
            due("drawn(1, " + no + ", 0)", x.drawn(1, no, 0), OUTSIDE);
        }
        for (int no : new int[] {-1, 3, LOW, HIGH}) {
            due("drawn(1, 1, " + no + ")", x.drawn(1, 1, no), OUTSIDE);
        }
        due("z after 0", x.drawn(1, 0, 2), 12345);
        due("z after 1", x.drawn(1, 1, 2), 1103527590);
        due("z after 12345", x.drawn(2, 0, 2), (1103515245L * 12345 + 12345) % (1L << 31));
        due("z after the greatest seed", x.drawn(1, HIGH, 2), (1103515245L * HIGH + 12345) % (1L << 31));
        // 1103527590 / 65536 is 16838, and 16838 modulo 4 is 2: the number is 3
        due("any number is plain", x.drawn(1, 1, 0), 1);
        due("3 is not the content", x.drawn(1, 1, 1), 0);
        x.give(1, 3);
        due("3 is the content", x.drawn(1, 1, 1), 1);
        x.be(2);
        due("3 is not lattice", x.drawn(1, 1, 0), 0);
        // behind seed 1 the numbers 3 3 are drawn, and then 2 4, 4 4, 3 4, 1 3, 2 4
        for (String text : new String[] {"f2/:002", "f2/:012", "f2/:0021", "f2/:102"}) {
            SkewBoard two = with(text);
            due("33 is plain", two.drawn(1, 1, 0), 1);
            due("33 is proper by " + text, two.drawn(1, 1, 1), text.equals("f2/:002") ? 1 : 0);
        }
        due("24 is drawn twice", with("f2/:0101").drawn(6, 1, 1), 2);
        due("two are turned", with("t2/:1").drawn(6, 1, 0), 2);
        due("four are strict", with("s2/:1").drawn(6, 1, 0), 4);
        due("all are plain", with("f1/:1").drawn(100, 77, 0), 100);
        refused(x, "drawn changes nothing", x.digest(), x.drawn(3, 4, 0) & 0, 0);
    }

    private static void image() {
        SkewBoard x = new SkewBoard();
        due("image without a board", x.image(), STATE);
        due("restore after it", x.restore(), STATE);
        read(x, "f21/:21");
        due("image", x.image(), 3);
        x.grow(0, true);
        due("image again", x.image(), 4);
        x.grow(0, true);
        due("what was saved before is lost", x.restore(), 4);
    }

    private static void restore() {
        SkewBoard x = with("c321/1:221");
        due("nothing saved", x.restore(), STATE);
        x.see(0, true);
        x.image();
        long saved = x.digest();
        x.be(4);
        x.grow(0, true);
        x.cut(0, 2);
        x.give(1, 4);
        x.see(1, false);
        x.see(2, true);
        due("other fillings by now", x.about(4), 11);
        due("other terms by now", x.terms(), 0);
        due("restore", x.restore(), 5);
        due("digest as saved", x.digest(), saved);
        x.forget();
        type(x, "ab");
        due("it stays saved", x.restore(), 5);
        due("the page is not saved", x.count(6), 2);
        x.blank();
        due("observations are back", x.digest(), saved);
        type(x, "nothing");
        x.board();
        due("a board that was not read does not matter", x.restore(), 5);
        read(x, "c321/1:221");
        refused(x, "a board was read", x.digest(), x.restore(), STATE);
        x.image();
        due("saved again", x.restore(), 5);
    }

    private static void count() {
        SkewBoard x = with("l321/21:21");
        x.see(0, true);
        x.see(0, true);
        type(x, "abc");
        int[] want = {3, 3, 2, 7, 8, 2, 3, 1};
        for (int what = 0; what < 8; what++) {
            due("count(" + what + ")", x.count(what), want[what]);
        }
        for (int no : new int[] {-1, 8, LOW, HIGH}) {
            due("count(" + no + ")", x.count(no), OUTSIDE);
        }
        x.image();
        x.restore();
        due("restore does not read", x.count(7), 1);
        x.board();
        due("what is refused is not read", x.count(7), 1);
        read(x, "f1/:1");
        due("count(7)", x.count(7), 2);
    }

    private static long digestOf(long... numbers) {
        long h = 1471;
        for (long v : numbers) {
            h = 31 * h + v;
        }
        return h;
    }

    private static void digest() {
        SkewBoard x = new SkewBoard();
        due("digest of a new one", x.digest(), digestOf(31, 1, 0, 0, 0, 0, 0, 0, 0, 0));
        type(x, "f~");
        due("digest of a page", x.digest(), digestOf(31, 1, 'f', '~', 0, 0, 0, 0, 0, 0, 2, 0));
        read(x, "f11/:11");
        x.see(2, true);
        x.letter('!');
        due("digest of a board", x.digest(), digestOf(
            0, 2, 2, 2, 2,
            'f', '1', '1', '/', '0', '0', ':', '1', '1', '0', '0',
            1, 2, 0, 0, 0, 0, 0, 0, 1, 1, 1, 1, 0, 1, 2, 2, 2,
            2, 1, 0, 0, 0, 0, 0, 0, 0, 1, 1, 1, 0, 1, 2, 2, 2,
            1, 1, 0, 0, 1,
            16, 0,
            '!',
            2, 2, 2, 1, 1, 1, 1, 1));
        read(x, "f22/:1111");
        due("only three fillings count", digestWithThree(x), x.digest());
    }

    private static long digestWithThree(SkewBoard x) {
        long h = 1471;
        for (int what = 0; what < 5; what++) {
            h = 31 * h + x.about(what);
        }
        for (int place = 0; place < 20 && x.text(place) != UNKNOWN; place++) {
            h = 31 * h + x.text(place);
        }
        for (int way = 0; way < 3; way++) {
            for (int b = 0; b < 4; b++) {
                h = 31 * h + x.way(way, b);
            }
            for (int i = 0; i <= 2; i++) {
                for (int j = 0; j <= 4; j++) {
                    h = 31 * h + x.hive(way, i, j);
                }
            }
        }
        for (int term = 0; term < x.terms(); term++) {
            for (int what = 0; what < 5; what++) {
                h = 31 * h + x.term(term, what);
            }
        }
        h = 31 * (31 * h + x.sorts(0)) + x.sorts(1);
        for (int what = 0; what < 8; what++) {
            h = 31 * h + x.count(what);
        }
        return h;
    }
}
