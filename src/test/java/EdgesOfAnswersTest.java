/** What is asked about the board: the promises 8 to 12. */
public final class EdgesOfAnswersTest {
    public static void main(String[] args) {
        Edges.runAll(EdgesOfAnswersTest.class);
    }

    // ---- 8

    @Says("8: 0 the kind of its rule;")
    static void theFirstAndTheLastKind() {
        Edges.due("about(0)", Edges.with("f1/:1").about(0), 0);
        Edges.due("about(0)", Edges.with("t1/:1").about(0), 4);
    }

    @Says("8: 1 boxes;")
    static void noBoxesAndNineBoxes() {
        Edges.due("about(1)", Edges.with("f5/5:1").about(1), 0);
        Edges.due("about(1)", Edges.with("f54/:1").about(1), 9);
    }

    @Says("8: 2 rows;")
    static void oneRowAndFourRows() {
        Edges.due("about(2)", Edges.with("f5/5:1").about(2), 1);
        Edges.due("about(2)", Edges.with("f5555/5555:1").about(2), 4);
    }

    @Says("8: 3 how many numbers the content has in all;")
    static void theSmallestAndTheGreatestContent() {
        Edges.due("about(3)", Edges.with("f1/:0").about(3), 0);
        Edges.due("about(3)", Edges.with("f1/:9999").about(3), 36);
    }

    @Says("8: 4 proper fillings")
    static void noFillingAndTheMostFillings() {
        Edges.due("about(4)", Edges.with("f1/:2").about(4), 0);
        Edges.due("about(4)", Edges.with("f5/5:0").about(4), 1);
        Edges.due("about(4)", Edges.with("f3222/:3222").about(4), 396);
    }

    @Says("8: OUTSIDE if what is not 0 to 4;")
    static void aboutBesideZeroToFour() {
        SkewBoard x = Edges.with("f1/:1");
        for (int what : new int[] {-1, 5, Edges.LOW, Edges.HIGH}) {
            Edges.due("about(" + what + ")", x.about(what), Edges.OUTSIDE);
        }
    }

    @Says("8: STATE if there is no board.")
    static void aboutWithoutABoard() {
        for (int what = 0; what <= 4; what++) {
            Edges.due("about(" + what + ")", new SkewBoard().about(what), Edges.STATE);
        }
    }

    // ---- 9

    @Says("9: The cast succeeds if its type is that of the kind or extends it.")
    static void castsToTheKindItself() {
        for (int kind = 0; kind < 5; kind++) {
            Edges.due("as(" + kind + ")", Edges.with("fclst".charAt(kind) + "1/:1").as(kind), kind);
        }
    }

    @Says("9: The cast succeeds if its type is that of the kind or extends it.")
    static void castsToTheKindsThatAreExtended() {
        for (int kind = 1; kind < 5; kind++) {
            Edges.due("as(0)", Edges.with("fclst".charAt(kind) + "1/:1").as(0), kind);
        }
        Edges.due("lattice as(1)", Edges.with("l1/:1").as(1), 2);
    }

    @Says("9: Returns the kind of the rule, or NONE if the cast fails;")
    static void castsThatFail() {
        int[][] fails = {{1, 2, 3, 4}, {2, 3, 4}, {3, 4}, {1, 2, 4}, {1, 2, 3}};
        for (int kind = 0; kind < 5; kind++) {
            for (int other : fails[kind]) {
                Edges.due(kind + " as(" + other + ")", Edges.with("fclst".charAt(kind) + "1/:1").as(other), Edges.NONE);
            }
        }
    }

    @Says("9: Returns the kind of the rule, or NONE if the cast fails;")
    static void castsChangeNothing() {
        SkewBoard x = Edges.with("l1/:1");
        x.as(0);
        x.as(4);
        Edges.due("about(0)", x.about(0), 2);
    }

    @Says("9: OUTSIDE if kind is out of range;")
    static void castsBesideZeroToFour() {
        SkewBoard x = Edges.with("f1/:1");
        for (int kind : new int[] {-1, 5, Edges.LOW, Edges.HIGH}) {
            Edges.due("as(" + kind + ")", x.as(kind), Edges.OUTSIDE);
        }
    }

    @Says("9: the kind, 0 to 4")
    static void castsToTheFirstAndTheLastKind() {
        SkewBoard x = Edges.with("t1/:1");
        Edges.due("as(0)", x.as(0), 4);
        Edges.due("as(4)", x.as(4), 4);
    }

    @Says("9: STATE if there is no board.")
    static void castsWithoutABoard() {
        for (int kind = 0; kind < 5; kind++) {
            Edges.due("as(" + kind + ")", new SkewBoard().as(kind), Edges.STATE);
        }
    }

    // ---- 10

    @Says("10: Returns the length;")
    static void theFirstAndTheLastRow() {
        SkewBoard x = Edges.with("f5441/543:1");
        Edges.due("row(0, 0)", x.row(0, 0), 5);
        Edges.due("row(0, 1)", x.row(0, 1), 5);
        Edges.due("row(3, 0)", x.row(3, 0), 1);
        Edges.due("row(3, 1)", x.row(3, 1), 0);
    }

    @Says("10: UNKNOWN if there is no such row;")
    static void rowsBesideThoseOfTheBoard() {
        String[] texts = {"f1/:1", "f11/:1", "f111/:1", "f1111/:1"};
        for (int rows = 1; rows <= 4; rows++) {
            SkewBoard x = Edges.with(texts[rows - 1]);
            Edges.due("row(-1, 0)", x.row(-1, 0), Edges.UNKNOWN);
            Edges.due("the last row", x.row(rows - 1, 0), 1);
            Edges.due("row(" + rows + ", 0)", x.row(rows, 0), Edges.UNKNOWN);
            Edges.due("row(LOW, 1)", x.row(Edges.LOW, 1), Edges.UNKNOWN);
            Edges.due("row(HIGH, 1)", x.row(Edges.HIGH, 1), Edges.UNKNOWN);
        }
    }

    @Says("10: UNKNOWN if there is no such row;")
    static void rowsWithoutABoard() {
        Edges.due("row(0, 0)", new SkewBoard().row(0, 0), Edges.UNKNOWN);
        Edges.due("row(0, 1)", new SkewBoard().row(0, 1), Edges.UNKNOWN);
    }

    @Says("10: OUTSIDE if what is not 0 or 1.")
    static void rowBesideZeroAndOne() {
        SkewBoard x = Edges.with("f1/:1");
        for (int what : new int[] {-1, 2, Edges.LOW, Edges.HIGH}) {
            Edges.due("row(0, " + what + ")", x.row(0, what), Edges.OUTSIDE);
        }
    }

    // ---- 11

    @Says("11: Returns how many times;")
    static void zeroTimesAndNineTimes() {
        SkewBoard x = Edges.with("f1/:0090");
        Edges.due("content(2)", x.content(2), 0);
        Edges.due("content(3)", x.content(3), 9);
    }

    @Says("11: Returns how many times a number is to be there.")
    static void whatIsToBeThereNeedNotFitTheBoxes() {
        SkewBoard x = Edges.with("f5/5:9999");
        for (int number = 1; number <= 4; number++) {
            Edges.due("content(" + number + ")", x.content(number), 9);
        }
    }

    @Says("11: the number, 1 to 4")
    static void theFirstAndTheLastNumber() {
        SkewBoard x = Edges.with("f1/:5678");
        Edges.due("content(1)", x.content(1), 5);
        Edges.due("content(4)", x.content(4), 8);
    }

    @Says("11: OUTSIDE if number is out of range;")
    static void contentBesideOneToFour() {
        SkewBoard x = Edges.with("f1/:1");
        for (int number : new int[] {0, 5, -1, Edges.LOW, Edges.HIGH}) {
            Edges.due("content(" + number + ")", x.content(number), Edges.OUTSIDE);
        }
    }

    @Says("11: STATE if there is no board.")
    static void contentWithoutABoard() {
        for (int number = 1; number <= 4; number++) {
            Edges.due("content(" + number + ")", new SkewBoard().content(number), Edges.STATE);
        }
    }

    // ---- 12

    @Says("12: Returns the row or column;")
    static void theFirstAndTheLastBox() {
        SkewBoard x = Edges.with("f5311/1:1");
        Edges.due("box(0, 0)", x.box(0, 0), 0);
        Edges.due("box(0, 1)", x.box(0, 1), 1);
        Edges.due("box(8, 0)", x.box(8, 0), 3);
        Edges.due("box(8, 1)", x.box(8, 1), 0);
    }

    @Says("12: UNKNOWN if there is no such box;")
    static void boxesBesideThoseOfTheBoard() {
        SkewBoard x = Edges.with("f54/:1");
        for (int box : new int[] {-1, 9, Edges.LOW, Edges.HIGH}) {
            Edges.due("box(" + box + ", 0)", x.box(box, 0), Edges.UNKNOWN);
        }
        Edges.due("box(1, 0) of one box", Edges.with("f1/:1").box(1, 0), Edges.UNKNOWN);
    }

    @Says("12: UNKNOWN if there is no such box;")
    static void boxesOfABoardWithoutBoxes() {
        Edges.due("box(0, 0)", Edges.with("f5/5:1").box(0, 0), Edges.UNKNOWN);
    }

    @Says("12: UNKNOWN if there is no such box;")
    static void boxesWithoutABoard() {
        Edges.due("box(0, 0)", new SkewBoard().box(0, 0), Edges.UNKNOWN);
    }

    @Says("12: UNKNOWN if there is no such box;")
    static void boxesThatAreGone() {
        SkewBoard x = Edges.with("f2/:1");
        Edges.due("box(1, 1)", x.box(1, 1), 1);
        x.grow(0, false);
        Edges.due("box(1, 1) after grow", x.box(1, 1), Edges.UNKNOWN);
        x.cut(0, 1);
        Edges.due("box(0, 1) after cut", x.box(0, 1), Edges.UNKNOWN);
    }

    @Says("12: OUTSIDE if what is not 0 or 1.")
    static void boxBesideZeroAndOne() {
        SkewBoard x = Edges.with("f1/:1");
        for (int what : new int[] {-1, 2, Edges.LOW, Edges.HIGH}) {
            Edges.due("box(0, " + what + ")", x.box(0, what), Edges.OUTSIDE);
        }
    }
}
