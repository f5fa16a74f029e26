import java.util.ArrayList;
import java.util.Arrays;
import java.util.List;

/**
 * Every shape, every rule and every content with as many numbers as there are boxes: how many proper fillings
 * there are, and the first, the middle and the last one. Here all numbers are tried in all boxes, and the
 * fillings that satisfy the rule are then sorted out by their content.
 */
public final class AllBoardsTest {
    private static final int KEYS = 10_000;
    private static final Checks CHECKS = new Checks();

    private final String lengths;
    private final int kind;
    private final int[] rows;
    private final int[] columns;
    private final int[] filling;
    private final List<List<int[]>> byContent = new ArrayList<>();
    private final int[] indexOf = new int[KEYS];

    private AllBoardsTest(int kind, String outer, String inner, int boxes) {
        this.kind = kind;
        lengths = "fclst".charAt(kind) + outer + "/" + inner + ":";
        rows = new int[boxes];
        columns = new int[boxes];
        filling = new int[boxes];
        int box = 0;
        for (int row = 0; row < outer.length(); row++) {
            for (int column = inner.charAt(row) - '0'; column < outer.charAt(row) - '0'; column++) {
                rows[box] = row;
                columns[box] = column;
                box++;
            }
        }
        Arrays.fill(indexOf, -1);
    }

    public static void main(String[] args) {
        for (int rows = 1; rows <= 4; rows++) {
            List<String> descending = descending(rows);
            for (String outer : descending) {
                for (String inner : descending) {
                    lookAt(outer, inner);
                }
            }
        }
        CHECKS.end("AllBoardsTest");
    }

    private static List<String> descending(int digits) {
        List<String> found = List.of("");
        for (int k = 0; k < digits; k++) {
            List<String> longer = new ArrayList<>();
            for (String start : found) {
                int most = start.isEmpty() ? 5 : start.charAt(start.length() - 1) - '0';
                for (int digit = 0; digit <= most; digit++) {
                    longer.add(start + digit);
                }
            }
            found = longer;
        }
        return found;
    }

    private static void lookAt(String outer, String inner) {
        int boxes = 0;
        for (int row = 0; row < outer.length(); row++) {
            if (outer.charAt(row) == '0' || inner.charAt(row) > outer.charAt(row)) {
                return;
            }
            boxes += outer.charAt(row) - inner.charAt(row);
        }
        for (int kind = 0; kind < 5 && boxes <= 9; kind++) {
            AllBoardsTest shape = new AllBoardsTest(kind, outer, inner, boxes);
            shape.fill(0);
            shape.askAll(boxes);
        }
    }

    private void fill(int box) {
        if (box == filling.length) {
            if (kind != 2 || isLattice()) {
                keep();
            }
            return;
        }
        for (int number = 1; number <= 4; number++) {
            filling[box] = number;
            if (agreesWithTheBoxesBefore(box)) {
                fill(box + 1);
            }
        }
    }

    private boolean agreesWithTheBoxesBefore(int box) {
        boolean agrees = true;
        for (int other = 0; other < box; other++) {
            if (rows[other] == rows[box] && columns[other] + 1 == columns[box]) {
                agrees &= kind == 3 ? filling[other] < filling[box]
                    : kind == 4 ? filling[other] >= filling[box] : filling[other] <= filling[box];
            }
            if (rows[other] + 1 == rows[box] && columns[other] == columns[box]) {
                agrees &= kind == 0 || (kind == 3 ? filling[other] <= filling[box]
                    : kind == 4 ? filling[other] > filling[box] : filling[other] < filling[box]);
            }
        }
        return agrees;
    }

    private boolean isLattice() {
        int[] read = new int[5];
        for (int row = 0; row < 4; row++) {
            for (int box = filling.length - 1; box >= 0; box--) {
                if (rows[box] == row) {
                    read[filling[box]]++;
                    if (read[2] > read[1] || read[3] > read[2] || read[4] > read[3]) {
                        return false;
                    }
                }
            }
        }
        return true;
    }

    private void keep() {
        int key = 0;
        for (int number : filling) {
            key += number == 1 ? 1000 : number == 2 ? 100 : number == 3 ? 10 : 1;
        }
        if (indexOf[key] < 0) {
            indexOf[key] = byContent.size();
            byContent.add(new ArrayList<>());
        }
        byContent.get(indexOf[key]).add(filling.clone());
    }

    private void askAll(int boxes) {
        for (int key = 0; key < KEYS; key++) {
            if (key / 1000 + key / 100 % 10 + key / 10 % 10 + key % 10 == boxes) {
                ask(lengths + Integer.toString(KEYS + key).substring(1), key);
            }
        }
    }

    private void ask(String text, int key) {
        SkewBoard x = new SkewBoard();
        for (int k = 0; k < text.length(); k++) {
            x.letter(text.charAt(k));
        }
        CHECKS.due(text, x.board(), filling.length);
        List<int[]> want = indexOf[key] < 0 ? List.of() : byContent.get(indexOf[key]);
        CHECKS.due(text, x.about(4), want.size());
        for (int way : new int[] {0, want.size() / 2, want.size() - 1}) {
            for (int box = 0; box < filling.length && !want.isEmpty(); box++) {
                CHECKS.due(text, x.way(way, box), want.get(way)[box]);
            }
        }
    }
}
