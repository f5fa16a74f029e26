import java.util.Random;

/** Random runs of calls, each answer of SkewBoard against that of the model. */
public final class ModelRunsTest {
    private static final int RUNS = 1500;
    private static final int CALLS = 512;
    private static final Checks CHECKS = new Checks();

    private final Random random;
    private final String name;
    private final SkewBoard board = new SkewBoard();
    private final Model model = new Model();
    private int calls = 0;

    private ModelRunsTest(int run) {
        random = new Random(run);
        name = "run " + run + " call ";
    }

    public static void main(String[] args) {
        for (int run = 0; run < RUNS && CHECKS.allRight(); run++) {
            ModelRunsTest one = new ModelRunsTest(run);
            while (one.calls < CALLS && CHECKS.allRight()) {
                one.step();
            }
        }
        CHECKS.end("ModelRunsTest");
    }

    private void due(String call, long got, long want) {
        calls++;
        CHECKS.due(name + calls + ": " + call, got, want);
    }

    private int below(int bound) {
        return random.nextInt(bound);
    }

    /** Mostly from low to high, at times just outside or far outside. */
    private int about(int low, int high) {
        int chance = below(40);
        if (chance == 0) {
            return random.nextInt();
        }
        if (chance == 1) {
            return random.nextBoolean() ? Integer.MIN_VALUE : Integer.MAX_VALUE;
        }
        if (chance < 5) {
            return random.nextBoolean() ? low - 1 : high + 1;
        }
        return low + below(high - low + 1);
    }

    private void type(String text) {
        for (char sign : text.toCharArray()) {
            due("letter(" + (int) sign + ")", board.letter(sign), model.letter(sign));
        }
    }

    private String descending(int rows, int low, int high) {
        StringBuilder text = new StringBuilder();
        int most = high;
        for (int r = 0; r < rows; r++) {
            most = low + below(most - low + 1);
            text.append(most);
        }
        return text.toString();
    }

    private String boardText() {
        int rows = 1 + below(4);
        String outer = descending(rows, 1, 5);
        StringBuilder inner = new StringBuilder();
        int most = 5;
        int boxes = 0;
        for (int r = 0; r < rows; r++) {
            int length = outer.charAt(r) - '0';
            most = Math.min(most, length);
            most = below(3) == 0 ? below(most + 1) : most - (most > 0 ? below(2) : 0);
            inner.append(most);
            boxes += length - most;
        }
        return "fclst".charAt(below(5)) + outer + "/" + inner + ":" + contentText(boxes);
    }

    /** Mostly as many numbers as there are boxes, and often a partition. */
    private String contentText(int boxes) {
        int[] times = new int[4];
        int sum = below(8) == 0 ? below(12) : Math.min(boxes, 9);
        for (int k = 0; k < sum; k++) {
            times[below(4)]++;
        }
        if (below(2) == 0) {
            java.util.Arrays.sort(times);
            times = new int[] {times[3], times[2], times[1], times[0]};
        }
        StringBuilder text = new StringBuilder();
        for (int t : times) {
            text.append(Math.min(t, 9));
        }
        return text.substring(0, below(6) == 0 ? 1 + below(4) : 4);
    }

    private String spoilt(String text) {
        StringBuilder changed = new StringBuilder(text);
        int at = below(changed.length());
        switch (below(4)) {
            case 0:
                changed.deleteCharAt(at);
                break;
            case 1:
                changed.insert(at, changed.charAt(below(changed.length())));
                break;
            case 2:
                changed.setCharAt(at, "0123456/:fclst xyz9".charAt(below(19)));
                break;
            default:
                changed.setLength(at);
                break;
        }
        return changed.toString();
    }

    private void readBoard() {
        if (below(3) != 0) {
            due("blank()", board.blank(), model.blank());
        }
        String text = boardText();
        type(below(3) == 0 ? spoilt(text) : text);
        due("fault()", board.fault(), model.fault());
        due("board()", board.board(), model.board());
    }

    private void readFilling() {
        if (below(4) != 0) {
            due("blank()", board.blank(), model.blank());
        }
        StringBuilder text = new StringBuilder();
        int ways = model.count(2);
        int way = ways > 0 ? below(ways) : 0;
        for (int b = 0; b < model.count(0); b++) {
            boolean known = ways > 0 && below(12) != 0;
            text.append(known ? model.way(way, b) : 1 + below(4));
        }
        type(text.length() > 0 && below(10) == 0 ? spoilt(text.toString()) : text.toString());
        due("filling()", board.filling(), model.filling());
    }

    private void step() {
        int chance = below(model.count(1) == 0 ? 30 : 100);
        if (chance < 5) {
            readBoard();
        } else if (chance < 9) {
            readFilling();
        } else if (chance < 30) {
            askText();
        } else if (chance < 55) {
            change();
        } else if (chance < 80) {
            askFillings();
        } else {
            observe();
        }
        if (below(12) == 0) {
            due("digest()", board.digest(), model.digest());
        }
    }

    private void askText() {
        int a = about(0, 4);
        int b = about(0, 1);
        switch (below(9)) {
            case 0:
                due("letter", board.letter(a), model.letter(a));
                break;
            case 1:
                int code = about(32, 126);
                due("letter(" + code + ")", board.letter(code), model.letter(code));
                break;
            case 2:
                int place = about(0, 14);
                due("text(" + place + ")", board.text(place), model.text(place));
                break;
            case 3:
                due("about(" + a + ")", board.about(a), model.about(a));
                break;
            case 4:
                due("as(" + a + ")", board.as(a), model.as(a));
                break;
            case 5:
                due("row(" + a + ", " + b + ")", board.row(a, b), model.row(a, b));
                break;
            case 6:
                due("content(" + a + ")", board.content(a), model.content(a));
                break;
            case 7:
                int box = about(0, 8);
                due("box(" + box + ", " + b + ")", board.box(box, b), model.box(box, b));
                break;
            default:
                due("fault()", board.fault(), model.fault());
                break;
        }
    }

    private void change() {
        int a = about(0, 4);
        int row = about(0, 3);
        boolean more = random.nextBoolean();
        switch (below(7)) {
            case 0:
                due("be(" + a + ")", board.be(a), model.be(a));
                break;
            case 1:
            case 2:
                due("grow(" + row + ", " + more + ")", board.grow(row, more), model.grow(row, more));
                break;
            case 3:
            case 4:
                int inner = about(0, 5);
                due("cut(" + row + ", " + inner + ")", board.cut(row, inner), model.cut(row, inner));
                break;
            default:
                int from = about(1, 4);
                int to = about(1, 4);
                due("give(" + from + ", " + to + ")", board.give(from, to), model.give(from, to));
                break;
        }
    }

    private void askFillings() {
        int way = about(0, Math.max(0, model.count(2) - 1));
        int term = about(0, Math.max(0, model.count(3) - 1));
        switch (below(5)) {
            case 0:
                int box = about(0, 8);
                due("way(" + way + ", " + box + ")", board.way(way, box), model.way(way, box));
                break;
            case 1:
                int i = about(0, 4);
                int j = about(0, 4);
                due("hive(" + way + ", " + i + ", " + j + ")", board.hive(way, i, j), model.hive(way, i, j));
                break;
            case 2:
                due("terms()", board.terms(), model.terms());
                break;
            case 3:
                int what = about(0, 4);
                due("term(" + term + ", " + what + ")", board.term(term, what), model.term(term, what));
                break;
            default:
                int counted = about(0, 7);
                due("count(" + counted + ")", board.count(counted), model.count(counted));
                break;
        }
    }

    private void observe() {
        int what = about(0, 3);
        boolean can = random.nextBoolean();
        switch (below(8)) {
            case 0:
            case 1:
                due("see(" + what + ", " + can + ")", board.see(what, can), model.see(what, can));
                break;
            case 2:
                if (below(3) == 0) {
                    due("forget()", board.forget(), model.forget());
                }
                break;
            case 3:
            case 4:
                int set = about(0, 1);
                due("sorts(" + set + ")", board.sorts(set), model.sorts(set));
                break;
            case 5:
                int times = about(1, 100);
                int seed = below(9) == 0 ? random.nextInt() : random.nextInt() & Integer.MAX_VALUE;
                int asked = about(0, 2);
                due("drawn(" + times + ", " + seed + ", " + asked + ")",
                    board.drawn(times, seed, asked), model.drawn(times, seed, asked));
                break;
            case 6:
                due("image()", board.image(), model.image());
                break;
            default:
                due("restore()", board.restore(), model.restore());
                break;
        }
    }
}
