/** The paragraph BOARDS. */
public final class EdgesOfBoardsTest {
    public static void main(String[] args) {
        Edges.runAll(EdgesOfBoardsTest.class);
    }

    @Says("BOARDS: There is no board at first.")
    static void noBoardAtFirst() {
        Edges.due("about(2)", new SkewBoard().about(2), Edges.STATE);
        Edges.due("text(0)", new SkewBoard().text(0), Edges.UNKNOWN);
    }

    // ---- rows and lengths

    @Says("BOARDS: A board has one to four rows;")
    static void noRow() {
        Edges.notAccepted("f/:1");
    }

    @Says("BOARDS: A board has one to four rows;")
    static void oneRow() {
        Edges.due("about(2)", Edges.with("f1/:1").about(2), 1);
    }

    @Says("BOARDS: A board has one to four rows;")
    static void fourRows() {
        Edges.due("about(2)", Edges.with("f1111/:1").about(2), 4);
    }

    @Says("BOARDS: A board has one to four rows;")
    static void fiveRows() {
        Edges.notAccepted("f11111/:1");
    }

    @Says("BOARDS: an outer length for each of them, 1 to 5, none greater than that of the row above;")
    static void outerLengthsFromOneToFive() {
        Edges.notAccepted("f0/:1");
        Edges.accepted("f1/:1", 1);
        Edges.accepted("f5/:1", 5);
        Edges.notAccepted("f6/:1");
        Edges.notAccepted("f10/:1");
    }

    @Says("BOARDS: an outer length for each of them, 1 to 5, none greater than that of the row above;")
    static void outerLengthsBesideThatOfTheRowAbove() {
        Edges.accepted("f32/:1", 5);
        Edges.accepted("f33/:1", 6);
        Edges.notAccepted("f34/:1");
        Edges.notAccepted("f4212/:1");
    }

    @Says("BOARDS: an inner length for each of them, 0 to 5,")
    static void innerLengthsFromZeroToFive() {
        Edges.accepted("f5/0:1", 5);
        Edges.accepted("f5/5:1", 0);
        Edges.notAccepted("f5/6:1");
        Edges.notAccepted("f5/-1:1");
    }

    @Says("BOARDS: none greater than that of the row above or than the outer length of the row;")
    static void innerLengthsBesideThatOfTheRowAbove() {
        Edges.accepted("f44/21:1", 5);
        Edges.accepted("f44/22:1", 4);
        Edges.notAccepted("f44/23:1");
        Edges.notAccepted("f44/01:1");
    }

    @Says("BOARDS: none greater than that of the row above or than the outer length of the row;")
    static void innerLengthsBesideTheOuterLength() {
        Edges.accepted("f3/3:1", 0);
        Edges.notAccepted("f3/4:1");
        Edges.accepted("f52/42:1", 1);
        Edges.notAccepted("f52/43:1");
    }

    @Says("BOARDS: a content, which says for each of the numbers 1 to 4 how many times it is to be there, 0 to 9;")
    static void contentFromZeroToNine() {
        SkewBoard x = Edges.with("f1/:0990");
        Edges.due("content(1)", x.content(1), 0);
        Edges.due("content(2)", x.content(2), 9);
        Edges.due("content(3)", x.content(3), 9);
        Edges.due("content(4)", x.content(4), 0);
        // the signs beside the digits
        Edges.notAccepted("f1/:/");
        Edges.notAccepted("f1/::");
    }

    // ---- boxes

    @Says("BOARDS: A row has boxes in the columns from its inner length to its outer length minus 1.")
    static void theFirstAndTheLastColumnOfARow() {
        SkewBoard x = Edges.with("f5/3:1");
        Edges.due("box(0, 1)", x.box(0, 1), 3);
        Edges.due("box(1, 1)", x.box(1, 1), 4);
        Edges.due("box(2, 1)", x.box(2, 1), Edges.UNKNOWN);
    }

    @Says("BOARDS: A row has boxes in the columns from its inner length to its outer length minus 1.")
    static void aRowWithoutBoxes() {
        SkewBoard x = Edges.with("f321/32:1");
        Edges.due("boxes", x.about(1), 1);
        Edges.due("box(0, 0)", x.box(0, 0), 2);
        Edges.due("box(0, 1)", x.box(0, 1), 0);
    }

    @Says("BOARDS: Boxes are numbered row by row, in each row by their columns;")
    static void numbersOfBoxesGoOnFromRowToRow() {
        SkewBoard x = Edges.with("f4421/31:1");
        int[] rows = {0, 1, 1, 1, 2, 2, 3};
        int[] columns = {3, 1, 2, 3, 0, 1, 0};
        for (int box = 0; box < 7; box++) {
            Edges.due("box(" + box + ", 0)", x.box(box, 0), rows[box]);
            Edges.due("box(" + box + ", 1)", x.box(box, 1), columns[box]);
        }
    }

    @Says("BOARDS: there are at most nine.")
    static void nineBoxesAndTen() {
        Edges.accepted("f333/:9", 9);
        Edges.notAccepted("f3331/:9");
        Edges.accepted("f55/1:9", 9);
        Edges.notAccepted("f55/:9");
        Edges.notAccepted("f5555/:9");
    }

    // ---- rules

    @Says("BOARDS: A filling gives each box a number from 1 to 4.")
    static void numbersFromOneToFour() {
        Edges.filling("f1/:1", "0", Edges.STATE);
        Edges.filling("f1/:1", "1", 0);
        Edges.filling("f1/:0001", "4", 0);
        Edges.filling("f1/:0001", "5", Edges.STATE);
    }

    @Says("BOARDS: It satisfies the rules, which have the kinds 0 to 4, as follows;")
    static void kindsFromZeroToFour() {
        SkewBoard x = Edges.with("f1/:1");
        Edges.due("be(-1)", x.be(-1), Edges.OUTSIDE);
        Edges.due("be(4)", x.be(4), 0);
        Edges.due("be(0)", x.be(0), 4);
        Edges.due("be(5)", x.be(5), Edges.OUTSIDE);
    }

    @Says("BOARDS: \"next to\" means the next column of the same row,")
    static void theFirstBoxOfARowIsNotNextToTheLastOneAbove() {
        Edges.filling("f21/1:11", "21", 1);
        Edges.filling("f21/1:11", "12", 0);
    }

    @Says("BOARDS: \"below\" the same column of the next row, if there is such a box:")
    static void boxesInOtherColumnsAreNotBelow() {
        for (String rule : new String[] {"c", "s", "t"}) {
            Edges.fillings(rule + "21/1:11", 2);
            Edges.fillings(rule + "21/1:2", 1);
        }
    }

    @Says("BOARDS: \"below\" the same column of the next row, if there is such a box:")
    static void belowTheLastRowAndBehindTheLastColumnIsNothing() {
        for (String rule : new String[] {"f", "c", "s", "t"}) {
            Edges.fillings(rule + "1/:0001", 1);
            Edges.fillings(rule + "1/:1", 1);
        }
    }

    @Says("BOARDS: \"below\" the same column of the next row, if there is such a box:")
    static void belowIsTheSameColumnOfASkewBoard() {
        // boxes 0 and 1 in columns 1 and 2, boxes 2 and 3 in columns 0 and 1: only box 3 is below box 0
        Edges.filling("c32/1:211", "1123", 0);
        Edges.filling("c32/1:211", "1213", 1);
        Edges.filling("c32/1:211", "1312", 2);
        Edges.filling("c32/1:211", "2311", Edges.NONE);
    }

    @Says("BOARDS: \"below\" the same column of the next row, if there is such a box:")
    static void belowIsTheSameColumnBehindTheFirstOneToo() {
        // the second column has 4 above 3, or 2 above 2, or 1 above 2
        Edges.filling("f22/:1111", "1423", 2);
        Edges.filling("c22/:1111", "1423", Edges.NONE);
        Edges.filling("c22/:13", "1222", Edges.NONE);
        Edges.filling("s22/:1111", "1423", Edges.NONE);
        Edges.filling("t22/:1111", "4132", Edges.NONE);
    }

    @Says("BOARDS: \"below\" the same column of the next row, if there is such a box:")
    static void belowIsTheNextRowNotTheFirst() {
        Edges.filling("c111/:111", "123", 0);
        Edges.filling("c111/:111", "132", Edges.NONE);
        Edges.filling("s111/:21", "121", Edges.NONE);
        Edges.filling("t111/:111", "312", Edges.NONE);
    }

    @Says("BOARDS: 0 plain: no number is greater than the one next to it.")
    static void plainRows() {
        Edges.filling("f2/:11", "12", 0);
        Edges.filling("f2/:2", "11", 0);
        Edges.filling("f2/:11", "21", Edges.NONE);
    }

    @Says("BOARDS: 0 plain: no number is greater than the one next to it.")
    static void plainColumnsAreFree() {
        Edges.filling("f11/:11", "12", 0);
        Edges.filling("f11/:2", "11", 0);
        Edges.filling("f11/:11", "21", 1);
    }

    @Says("BOARDS: 1 columns: as 0, and each number is less than the one below it.")
    static void columnsRows() {
        Edges.filling("c2/:11", "12", 0);
        Edges.filling("c2/:2", "11", 0);
        Edges.filling("c2/:11", "21", Edges.NONE);
    }

    @Says("BOARDS: 1 columns: as 0, and each number is less than the one below it.")
    static void columnsColumns() {
        Edges.filling("c11/:11", "12", 0);
        Edges.filling("c11/:2", "11", Edges.NONE);
        Edges.filling("c11/:11", "21", Edges.NONE);
    }

    @Says("BOARDS: 2 lattice: as 1,")
    static void latticeRowsAndColumns() {
        Edges.filling("l2/:2", "11", 0);
        Edges.filling("l11/:11", "12", 0);
        Edges.filling("l11/:2", "11", Edges.NONE);
        // 1 1 2 read from above, but 2 next to 1
        Edges.filling("l32/2:21", "121", Edges.NONE);
    }

    @Says("BOARDS: there are at no moment more 2 than 1, more 3 than 2, or more 4 than 3")
    static void latticeTwos() {
        Edges.fillings("l1/:01", 0);
        Edges.filling("l21/1:11", "12", 0);
        Edges.filling("l21/1:11", "21", Edges.NONE);
        Edges.filling("l321/21:12", "122", Edges.NONE);
        Edges.filling("l4321/321:22", "1212", 1);
    }

    @Says("BOARDS: there are at no moment more 2 than 1, more 3 than 2, or more 4 than 3")
    static void latticeTwosBehindThrees() {
        Edges.filling("l5321/321:221", "11223", 0);
        Edges.filling("l5321/321:221", "11232", 1);
        Edges.filling("l4321/321:121", "1232", Edges.NONE);
        Edges.fillings("l4321/321:121", 0);
    }

    @Says("BOARDS: there are at no moment more 2 than 1, more 3 than 2, or more 4 than 3")
    static void latticeThrees() {
        Edges.fillings("l11/:101", 0);
        Edges.filling("l321/21:111", "123", 0);
        Edges.filling("l321/21:111", "132", Edges.NONE);
        Edges.filling("l321/21:111", "213", Edges.NONE);
    }

    @Says("BOARDS: there are at no moment more 2 than 1, more 3 than 2, or more 4 than 3")
    static void latticeFours() {
        Edges.fillings("l111/:1101", 0);
        Edges.filling("l4321/321:1111", "1234", 0);
        Edges.filling("l4321/321:1111", "1243", Edges.NONE);
    }

    @Says("BOARDS: each row from its last box to its first one,")
    static void latticeReadsRowsFromTheirLastBox() {
        Edges.filling("l2/:11", "12", Edges.NONE);
        Edges.filling("l3/:21", "112", Edges.NONE);
        Edges.filling("l31/1:21", "112", 0);
        // the second row has 1 2: 2 is read first, behind one 1, and then the other 1
        Edges.filling("l32/2:21", "112", 0);
        Edges.filling("l32/2:111", "123", Edges.NONE);
    }

    @Says("BOARDS: 3 strict: each number is less than the one next to it,")
    static void strictRows() {
        Edges.filling("s2/:11", "12", 0);
        Edges.filling("s2/:2", "11", Edges.NONE);
        Edges.filling("s2/:11", "21", Edges.NONE);
    }

    @Says("BOARDS: and none is greater than the one below it.")
    static void strictColumns() {
        Edges.filling("s11/:11", "12", 0);
        Edges.filling("s11/:2", "11", 0);
        Edges.filling("s11/:11", "21", Edges.NONE);
    }

    @Says("BOARDS: 4 turned: no number is less than the one next to it,")
    static void turnedRows() {
        Edges.filling("t2/:11", "21", 0);
        Edges.filling("t2/:2", "11", 0);
        Edges.filling("t2/:11", "12", Edges.NONE);
    }

    @Says("BOARDS: and each is greater than the one below it.")
    static void turnedColumns() {
        Edges.filling("t11/:11", "21", 0);
        Edges.filling("t11/:2", "11", Edges.NONE);
        Edges.filling("t11/:11", "12", Edges.NONE);
    }

    @Says("BOARDS: As types, all rules extend plain, and lattice extends columns, too.")
    static void typesThatExtendOthers() {
        for (int kind = 0; kind < 5; kind++) {
            SkewBoard x = Edges.with("fclst".charAt(kind) + "1/:1");
            Edges.due(kind + " as plain", x.as(0), kind);
            Edges.due(kind + " as columns", x.as(1), kind == 1 || kind == 2 ? kind : Edges.NONE);
        }
    }

    // ---- proper fillings

    @Says("BOARDS: contain each number as many times as the content says.")
    static void contentsWithOneNumberTooFewOrTooMany() {
        Edges.fillings("f2/:1", 0);
        Edges.fillings("f2/:2", 1);
        Edges.fillings("f2/:3", 0);
        Edges.fillings("f2/:0", 0);
        Edges.fillings("f2/:9999", 0);
    }

    @Says("BOARDS: contain each number as many times as the content says.")
    static void theEmptyFilling() {
        Edges.fillings("f5/5:0", 1);
        Edges.fillings("l5/5:0", 1);
        Edges.fillings("f5/5:1", 0);
        Edges.fillings("f5/5:0001", 0);
    }

    @Says("BOARDS: They are numbered in lexicographic order of their numbers in the boxes 0, 1 and so on.")
    static void theFirstAndTheLastFilling() {
        Edges.filling("f1111/:1111", "1234", 0);
        Edges.filling("f1111/:1111", "1243", 1);
        Edges.filling("f1111/:1111", "1324", 2);
        Edges.filling("f1111/:1111", "4312", 22);
        Edges.filling("f1111/:1111", "4321", 23);
    }
}
