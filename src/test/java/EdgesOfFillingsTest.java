/** The paragraph TERMS, and the promises 17 to 20. */
public final class EdgesOfFillingsTest {
    public static void main(String[] args) {
        Edges.runAll(EdgesOfFillingsTest.class);
    }

    /** All terms of a board, each with its lengths and its multiplicity. */
    private static void termsAre(SkewBoard x, int[]... want) {
        Edges.due("terms()", x.terms(), want.length);
        for (int term = 0; term < want.length; term++) {
            for (int what = 0; what < 5; what++) {
                Edges.due("term(" + term + ", " + what + ")", x.term(term, what), want[term][what]);
            }
        }
        Edges.due("the term behind the last", x.term(want.length, 0), Edges.UNKNOWN);
    }

    // ---- TERMS

    @Says("TERMS: A term is a sequence of four outer lengths, 0 to 14,")
    static void theSmallestLength() {
        termsAre(Edges.with("f1/:0"), new int[] {0, 0, 0, 0, 1});
    }

    @Says("TERMS: A term is a sequence of four outer lengths, 0 to 14,")
    static void theGreatestLength() {
        termsAre(Edges.with("f5/5:9"),
            new int[] {14, 0, 0, 0, 1}, new int[] {13, 1, 0, 0, 1}, new int[] {12, 2, 0, 0, 1},
            new int[] {11, 3, 0, 0, 1}, new int[] {10, 4, 0, 0, 1}, new int[] {9, 5, 0, 0, 1});
    }

    @Says("TERMS: A term is a sequence of four outer lengths, 0 to 14,")
    static void thereIsNoFifthRow() {
        termsAre(Edges.with("f1111/1111:1"), new int[] {2, 1, 1, 1, 1});
        termsAre(Edges.with("f1111/1111:1111"), new int[] {2, 2, 2, 2, 1});
        termsAre(Edges.with("f111/111:11"), new int[] {2, 2, 1, 0, 1}, new int[] {2, 1, 1, 1, 1});
    }

    @Says("TERMS: none greater than the one before,")
    static void lengthsBesideTheOneBefore() {
        // one box more: behind row 0, and in the rows that are shorter than the one above
        termsAre(Edges.with("f5555/5543:1"),
            new int[] {6, 5, 4, 3, 1}, new int[] {5, 5, 5, 3, 1}, new int[] {5, 5, 4, 4, 1});
    }

    @Says("TERMS: none less than the inner length of the board in the same row")
    static void lengthsBesideTheInnerLength() {
        termsAre(Edges.with("f5555/5543:0"), new int[] {5, 5, 4, 3, 1});
        termsAre(Edges.with("f22/22:1"), new int[] {3, 2, 0, 0, 1}, new int[] {2, 2, 1, 0, 1});
    }

    @Says("TERMS: (0 for a row that the board does not have),")
    static void rowsThatTheBoardDoesNotHave() {
        termsAre(Edges.with("f2/2:1"), new int[] {3, 0, 0, 0, 1}, new int[] {2, 1, 0, 0, 1});
        termsAre(Edges.with("f1/:1111"), new int[] {1, 1, 1, 1, 1});
    }

    @Says("TERMS: (0 for a row that the board does not have),")
    static void rowsThatThePresentBoardDoesNotHaveAnyMore() {
        SkewBoard x = Edges.with("f4321/4321:1");
        x.terms();
        Edges.read(x, "f1/1:1");
        termsAre(x, new int[] {2, 0, 0, 0, 1}, new int[] {1, 1, 0, 0, 1});
    }

    @Says("TERMS: such that there are as many boxes as the content has numbers in all,")
    static void noNumbersAndNoBoxes() {
        termsAre(Edges.with("f543/543:0"), new int[] {5, 4, 3, 0, 1});
    }

    @Says("TERMS: and at least one proper filling with the rule lattice.")
    static void contentsWithoutALatticeFilling() {
        for (String content : new String[] {"01", "12", "101", "1121", "0001", "0900"}) {
            Edges.due("terms() of " + content, Edges.with("f321/21:" + content).terms(), 0);
        }
    }

    @Says("TERMS: Their number is the multiplicity of the term.")
    static void theGreatestMultiplicity() {
        SkewBoard x = Edges.with("f5421/542:531");
        int[] want = {8, 6, 4, 2, 8};
        for (int what = 0; what < 5; what++) {
            Edges.due("term(30, " + what + ")", x.term(30, what), want[what]);
        }
        Edges.read(x, "f321/21:21");
        Edges.due("twice 321", x.term(3, 4), 2);
    }

    @Says("TERMS: If the content has more than nine numbers, there are no terms.")
    static void contentsOfNineAndTen() {
        Edges.due("nine", Edges.with("f1/:9").terms(), 1);
        Edges.due("ten", Edges.with("f1/:91").terms(), 0);
        Edges.due("nine in four rows", Edges.with("f1/:3222").terms(), 1);
        Edges.due("ten in four rows", Edges.with("f1/:4321").terms(), 0);
        Edges.due("the most", Edges.with("f1/:9999").terms(), 0);
    }

    @Says("TERMS: If the content has more than nine numbers, there are no terms.")
    static void noTermsAfterABoardWithTerms() {
        SkewBoard x = Edges.with("f5411/541:63");
        Edges.due("terms()", x.terms(), 54);
        Edges.read(x, "f5411/541:64");
        Edges.due("terms()", x.terms(), 0);
        Edges.due("term(0, 0)", x.term(0, 0), Edges.UNKNOWN);
        Edges.due("count(4)", x.count(4), 0);
    }

    @Says("TERMS: Terms are numbered in descending lexicographic order.")
    static void theFirstAndTheLastTerm() {
        termsAre(Edges.with("f21/21:21"),
            new int[] {4, 2, 0, 0, 1}, new int[] {4, 1, 1, 0, 1}, new int[] {3, 3, 0, 0, 1},
            new int[] {3, 2, 1, 0, 2}, new int[] {3, 1, 1, 1, 1}, new int[] {2, 2, 2, 0, 1},
            new int[] {2, 2, 1, 1, 1});
    }

    @Says("TERMS: The outer lengths and the rule of the board do not matter for them.")
    static void allRulesHaveTheSameTerms() {
        for (char rule : "fclst".toCharArray()) {
            Edges.due("terms() by " + rule, Edges.with(rule + "21/21:21").terms(), 7);
        }
    }

    @Says("TERMS: The outer lengths and the rule of the board do not matter for them.")
    static void allOuterLengthsHaveTheSameTerms() {
        for (String outer : new String[] {"21", "22", "51", "55", "2111", "5311"}) {
            Edges.due("terms() of " + outer, Edges.with("f" + outer + "/21:21").terms(), 7);
        }
    }

    // ---- 17

    @Says("17: Returns the number, 1 to 4;")
    static void theSmallestAndTheGreatestNumber() {
        SkewBoard x = Edges.with("f54/:2223");
        Edges.due("way(0, 0)", x.way(0, 0), 1);
        Edges.due("way(0, 8)", x.way(0, 8), 4);
    }

    @Says("17: UNKNOWN if there is no such filling or box.")
    static void fillingsBesideThoseOfTheBoard() {
        SkewBoard x = Edges.with("f3222/:3222");
        Edges.due("way(395, 0)", x.way(395, 0), 3);
        for (int way : new int[] {-1, 396, 400, Edges.LOW, Edges.HIGH}) {
            Edges.due("way(" + way + ", 0)", x.way(way, 0), Edges.UNKNOWN);
        }
    }

    @Says("17: UNKNOWN if there is no such filling or box.")
    static void boxesOfFillingsBesideThoseOfTheBoard() {
        SkewBoard x = Edges.with("f2/:11");
        Edges.due("way(0, 1)", x.way(0, 1), 2);
        for (int box : new int[] {-1, 2, 9, Edges.LOW, Edges.HIGH}) {
            Edges.due("way(0, " + box + ")", x.way(0, box), Edges.UNKNOWN);
        }
    }

    @Says("17: UNKNOWN if there is no such filling or box.")
    static void noFillingAtAll() {
        Edges.due("way(0, 0)", Edges.with("f1/:2").way(0, 0), Edges.UNKNOWN);
        Edges.due("way(0, 0) without a board", new SkewBoard().way(0, 0), Edges.UNKNOWN);
    }

    @Says("17: UNKNOWN if there is no such filling or box.")
    static void theEmptyFillingHasNoBox() {
        SkewBoard x = Edges.with("f5/5:0");
        Edges.due("about(4)", x.about(4), 1);
        Edges.due("way(0, 0)", x.way(0, 0), Edges.UNKNOWN);
    }

    // ---- 18

    @Says("18: the sum of the first i inner lengths,")
    static void noRowsHaveNoSum() {
        SkewBoard x = Edges.with("f5432/4321:1111");
        for (int j = 0; j <= 4; j++) {
            Edges.due("hive(0, 0, " + j + ")", x.hive(0, 0, j), 0);
        }
    }

    @Says("18: the sum of the first i inner lengths,")
    static void noNumbersHaveTheInnerLengths() {
        SkewBoard x = Edges.with("f5432/4321:1111");
        int[] want = {0, 4, 7, 9, 10};
        for (int i = 0; i <= 4; i++) {
            Edges.due("hive(0, " + i + ", 0)", x.hive(0, i, 0), want[i]);
        }
    }

    @Says("18: plus the number of boxes in the first i rows that have a number of at most j.")
    static void allNumbersHaveTheOuterLengths() {
        SkewBoard x = Edges.with("f5432/4321:1111");
        int[] want = {0, 5, 9, 12, 14};
        for (int i = 0; i <= 4; i++) {
            Edges.due("hive(0, " + i + ", 4)", x.hive(0, i, 4), want[i]);
        }
    }

    @Says("18: plus the number of boxes in the first i rows that have a number of at most j.")
    static void aNumberCountsFromItselfOn() {
        for (int number = 1; number <= 4; number++) {
            SkewBoard x = Edges.with("f1/:" + "0001".substring(4 - number));
            Edges.due("below " + number, x.hive(0, 1, number - 1), 0);
            Edges.due("from " + number, x.hive(0, 1, number), 1);
        }
    }

    @Says("18: plus the number of boxes in the first i rows that have a number of at most j.")
    static void theEmptyFillingHasTheInnerLengths() {
        SkewBoard x = Edges.with("f53/53:0");
        Edges.due("hive(0, 1, 4)", x.hive(0, 1, 4), 5);
        Edges.due("hive(0, 2, 4)", x.hive(0, 2, 4), 8);
    }

    @Says("18: UNKNOWN if there is no such filling;")
    static void hivesOfNoSuchFilling() {
        SkewBoard x = Edges.with("f11/:11");
        Edges.due("hive(1, 1, 1)", x.hive(1, 1, 1), 0);
        for (int way : new int[] {-1, 2, Edges.LOW, Edges.HIGH}) {
            Edges.due("hive(" + way + ", 0, 0)", x.hive(way, 0, 0), Edges.UNKNOWN);
        }
        Edges.due("hive(0, 0, 0) of no filling", Edges.with("f1/:2").hive(0, 0, 0), Edges.UNKNOWN);
        Edges.due("hive(0, 0, 0) without a board", new SkewBoard().hive(0, 0, 0), Edges.UNKNOWN);
    }

    @Says("18: 0 to the number of rows")
    static void hivesBesideTheRows() {
        String[] texts = {"f1/:1", "f11/:11", "f111/:111", "f1111/:1111"};
        for (int rows = 1; rows <= 4; rows++) {
            SkewBoard x = Edges.with(texts[rows - 1]);
            Edges.due("hive(0, -1, 4)", x.hive(0, -1, 4), Edges.OUTSIDE);
            Edges.due("hive(0, " + rows + ", 4)", x.hive(0, rows, 4), rows);
            Edges.due("hive(0, " + (rows + 1) + ", 4)", x.hive(0, rows + 1, 4), Edges.OUTSIDE);
        }
    }

    @Says("18: OUTSIDE if i or j is out of range.")
    static void hivesFarOutside() {
        SkewBoard x = Edges.with("f1/:1");
        for (int far : new int[] {Edges.LOW, Edges.HIGH}) {
            Edges.due("hive(0, " + far + ", 0)", x.hive(0, far, 0), Edges.OUTSIDE);
            Edges.due("hive(0, 0, " + far + ")", x.hive(0, 0, far), Edges.OUTSIDE);
        }
    }

    @Says("18: OUTSIDE if i or j is out of range.")
    static void hivesBesideZeroToFour() {
        SkewBoard x = Edges.with("f1/:1");
        Edges.due("hive(0, 1, -1)", x.hive(0, 1, -1), Edges.OUTSIDE);
        Edges.due("hive(0, 1, 5)", x.hive(0, 1, 5), Edges.OUTSIDE);
    }

    @Says("18: 0 to 4")
    static void hivesFromZeroToFour() {
        SkewBoard x = Edges.with("f1/:1");
        Edges.due("hive(0, 1, 0)", x.hive(0, 1, 0), 0);
        Edges.due("hive(0, 1, 4)", x.hive(0, 1, 4), 1);
    }

    // ---- 19

    @Says("19: Returns the number of terms;")
    static void noTermAndTheMostTerms() {
        Edges.due("none", Edges.with("f1/:01").terms(), 0);
        Edges.due("most", Edges.with("f5411/541:63").terms(), 54);
    }

    @Says("19: STATE if there is no board.")
    static void termsWithoutABoard() {
        Edges.due("terms()", new SkewBoard().terms(), Edges.STATE);
    }

    // ---- 20

    @Says("20: UNKNOWN if there is no such term;")
    static void termsBesideThoseOfTheBoard() {
        SkewBoard x = Edges.with("f5411/541:63");
        Edges.due("term(0, 0)", x.term(0, 0), 11);
        Edges.due("term(53, 4)", x.term(53, 4), 1);
        for (int term : new int[] {-1, 54, Edges.LOW, Edges.HIGH}) {
            Edges.due("term(" + term + ", 0)", x.term(term, 0), Edges.UNKNOWN);
        }
    }

    @Says("20: UNKNOWN if there is no such term;")
    static void noTermAtAll() {
        Edges.due("term(0, 0) of no terms", Edges.with("f1/:01").term(0, 0), Edges.UNKNOWN);
        Edges.due("term(0, 0) without a board", new SkewBoard().term(0, 0), Edges.UNKNOWN);
    }

    @Says("20: OUTSIDE if what is not 0 to 4.")
    static void termBesideZeroToFour() {
        SkewBoard x = Edges.with("f1/:1");
        for (int what : new int[] {-1, 5, Edges.LOW, Edges.HIGH}) {
            Edges.due("term(0, " + what + ")", x.term(0, what), Edges.OUTSIDE);
        }
    }

    @Says("20: 0 to 3 for its outer lengths;")
    static void theFirstAndTheLastLength() {
        SkewBoard x = Edges.with("f4321/4321:0");
        Edges.due("term(0, 0)", x.term(0, 0), 4);
        Edges.due("term(0, 3)", x.term(0, 3), 1);
    }

    @Says("20: 4 for its multiplicity")
    static void theMultiplicityBehindTheLengths() {
        Edges.due("term(3, 4)", Edges.with("f321/21:21").term(3, 4), 2);
    }
}
