import java.util.ArrayList;
import java.util.Collections;
import java.util.HashMap;
import java.util.HashSet;
import java.util.List;
import java.util.Map;
import java.util.Set;

/**
 * What the document says, word for word and without care for speed: fillings are found by trying all
 * orders of the content, terms by trying all outer lengths, faults by a list of all beginnings.
 */
final class Model {
    private static final int NONE = -1;
    private static final int UNKNOWN = -101;
    private static final int OUTSIDE = -102;
    private static final int STATE = -103;
    private static final int FULL = -104;
    private static final String LETTERS = "fclst";
    private static final boolean[][] CAN = {
        {true, true, true, false, true},
        {true, false, false, true, false},
        {false, false, false, false, true},
        {true, true, false, true, true},
    };

    /** All texts from the outer lengths to the colon, and all beginnings of these. */
    private static final Set<String> MIDDLES = new HashSet<>();
    private static final Set<String> BEGINNINGS = new HashSet<>();
    private static final Map<String, List<int[]>> KNOWN_FILLINGS = new HashMap<>();
    private static final Map<String, List<int[]>> KNOWN_TERMS = new HashMap<>();

    static {
        for (int code = 1; code < 6 * 6 * 6 * 6; code++) {
            addMiddles(Integer.toString(code, 6));
        }
        for (String middle : MIDDLES) {
            for (int end = 0; end <= middle.length(); end++) {
                BEGINNINGS.add(middle.substring(0, end));
            }
        }
    }

    private static void addMiddles(String outer) {
        if (outer.indexOf('0') >= 0 || !descends(outer)) {
            return;
        }
        MIDDLES.add(outer + "/:");
        for (int rows = 1; rows <= outer.length(); rows++) {
            int bound = (int) Math.pow(6, rows);
            for (int code = 0; code < bound; code++) {
                String inner = Integer.toString(code + bound, 6).substring(1);
                if (descends(inner) && isInside(inner, outer)) {
                    MIDDLES.add(outer + "/" + inner + ":");
                }
            }
        }
    }

    private static boolean descends(String digits) {
        for (int k = 1; k < digits.length(); k++) {
            if (digits.charAt(k) > digits.charAt(k - 1)) {
                return false;
            }
        }
        return true;
    }

    private static boolean isInside(String inner, String outer) {
        for (int k = 0; k < inner.length(); k++) {
            if (inner.charAt(k) > outer.charAt(k)) {
                return false;
            }
        }
        return true;
    }

    /** A board as a value: its text with all digits, or null if there is none. */
    private String page = "";
    private String board = null;
    private List<int[]> seen = new ArrayList<>();
    private String savedBoard = null;
    private List<int[]> savedSeen = null;
    private int reads = 0;

    // ---- the parts of a board's text

    private int kind() {
        return LETTERS.indexOf(board.charAt(0));
    }

    private int rows() {
        return board.indexOf('/') - 1;
    }

    private int[] digits(int from, int to) {
        int[] result = new int[to - from];
        for (int k = from; k < to; k++) {
            result[k - from] = board.charAt(k) - '0';
        }
        return result;
    }

    private int[] outer() {
        return digits(1, 1 + rows());
    }

    private int[] inner() {
        return digits(2 + rows(), 2 + 2 * rows());
    }

    private int[] numbers() {
        return digits(3 + 2 * rows(), board.length());
    }

    private static String textOf(int kind, int[] outer, int[] inner, int[] numbers) {
        StringBuilder text = new StringBuilder().append(LETTERS.charAt(kind));
        for (int v : outer) {
            text.append(v);
        }
        text.append('/');
        for (int v : inner) {
            text.append(v);
        }
        text.append(':');
        for (int v : numbers) {
            text.append(v);
        }
        return text.toString();
    }

    private static List<int[]> boxesOf(int[] outer, int[] inner) {
        List<int[]> boxes = new ArrayList<>();
        for (int r = 0; r < outer.length; r++) {
            for (int c = inner[r]; c < outer[r]; c++) {
                boxes.add(new int[] {r, c});
            }
        }
        return boxes;
    }

    private List<int[]> boxes() {
        return board == null ? new ArrayList<>() : boxesOf(outer(), inner());
    }

    private static int sum(int[] values) {
        int sum = 0;
        for (int v : values) {
            sum += v;
        }
        return sum;
    }

    // ---- fillings

    private static boolean satisfies(int kind, List<int[]> boxes, int[] filling) {
        for (int a = 0; a < filling.length; a++) {
            for (int b = 0; b < filling.length; b++) {
                boolean sameRow = boxes.get(a)[0] == boxes.get(b)[0];
                boolean nextRow = boxes.get(a)[0] + 1 == boxes.get(b)[0];
                boolean sameColumn = boxes.get(a)[1] == boxes.get(b)[1];
                boolean nextColumn = boxes.get(a)[1] + 1 == boxes.get(b)[1];
                if (sameRow && nextColumn && !besideAllowed(kind, filling[a], filling[b])) {
                    return false;
                }
                if (nextRow && sameColumn && !belowAllowed(kind, filling[a], filling[b])) {
                    return false;
                }
            }
        }
        return kind != 2 || isLattice(boxes, filling);
    }

    private static boolean besideAllowed(int kind, int number, int next) {
        return kind == 3 ? number < next : kind == 4 ? !(number < next) : !(number > next);
    }

    private static boolean belowAllowed(int kind, int number, int below) {
        return kind == 0 || (kind == 3 ? !(number > below) : kind == 4 ? number > below : number < below);
    }

    private static boolean isLattice(List<int[]> boxes, int[] filling) {
        int[] read = new int[5];
        for (int r = 0; r < 4; r++) {
            for (int b = filling.length - 1; b >= 0; b--) {
                if (boxes.get(b)[0] == r) {
                    read[filling[b]]++;
                    if (read[2] > read[1] || read[3] > read[2] || read[4] > read[3]) {
                        return false;
                    }
                }
            }
        }
        return true;
    }

    private static List<int[]> properFillings(int kind, int[] outer, int[] inner, int[] numbers) {
        List<int[]> found = new ArrayList<>();
        List<int[]> boxes = boxesOf(outer, inner);
        if (sum(numbers) == boxes.size()) {
            tryOrders(kind, boxes, numbers.clone(), new int[boxes.size()], 0, found);
        }
        return found;
    }

    private static void tryOrders(int kind, List<int[]> boxes, int[] left, int[] filling, int at,
            List<int[]> found) {
        if (at == filling.length) {
            if (satisfies(kind, boxes, filling)) {
                found.add(filling.clone());
            }
            return;
        }
        for (int number = 1; number <= 4; number++) {
            if (left[number - 1] > 0) {
                left[number - 1]--;
                filling[at] = number;
                tryOrders(kind, boxes, left, filling, at + 1, found);
                left[number - 1]++;
            }
        }
    }

    private List<int[]> ways() {
        if (board == null) {
            return new ArrayList<>();
        }
        return KNOWN_FILLINGS.computeIfAbsent(board,
            text -> properFillings(kind(), outer(), inner(), numbers()));
    }

    // ---- terms

    private List<int[]> termList() {
        if (board == null || sum(numbers()) > 9) {
            return new ArrayList<>();
        }
        int[] inner = new int[4];
        System.arraycopy(inner(), 0, inner, 0, rows());
        return KNOWN_TERMS.computeIfAbsent(textOf(2, new int[0], inner, numbers()),
            text -> findTerms(inner, numbers()));
    }

    private static List<int[]> findTerms(int[] inner, int[] numbers) {
        List<int[]> found = new ArrayList<>();
        int size = sum(inner) + sum(numbers);
        for (int a = 14; a >= inner[0]; a--) {
            for (int b = a; b >= inner[1]; b--) {
                for (int c = b; c >= inner[2]; c--) {
                    for (int d = c; d >= inner[3]; d--) {
                        if (a + b + c + d == size) {
                            addTerm(new int[] {a, b, c, d}, inner, numbers, found);
                        }
                    }
                }
            }
        }
        return found;
    }

    private static void addTerm(int[] outer, int[] inner, int[] numbers, List<int[]> found) {
        int many = properFillings(2, outer, inner, numbers).size();
        if (many > 0) {
            found.add(new int[] {outer[0], outer[1], outer[2], outer[3], many});
        }
    }

    // ---- the methods

    int letter(int code) {
        if (code < 32 || code > 126) {
            return OUTSIDE;
        }
        if (page.length() == 20) {
            return FULL;
        }
        page += (char) code;
        return page.length();
    }

    int blank() {
        int had = page.length();
        page = "";
        return had;
    }

    private static boolean isBeginning(String text) {
        if (text.isEmpty()) {
            return true;
        }
        String rest = text.substring(1);
        return LETTERS.indexOf(text.charAt(0)) >= 0
            && (BEGINNINGS.contains(rest) || isWithContent(rest, 0));
    }

    private static boolean isWithContent(String rest, int leastDigits) {
        int colon = rest.indexOf(':');
        if (colon < 0 || !MIDDLES.contains(rest.substring(0, colon + 1))) {
            return false;
        }
        String digits = rest.substring(colon + 1);
        return digits.matches("[0-9]*") && digits.length() >= leastDigits && digits.length() <= 4;
    }

    int fault() {
        for (int end = 1; end <= page.length(); end++) {
            if (!isBeginning(page.substring(0, end))) {
                return end - 1;
            }
        }
        return page.length();
    }

    private static String completed(String text) {
        int slash = text.indexOf('/');
        int colon = text.indexOf(':');
        String inner = (text.substring(slash + 1, colon) + "0000").substring(0, slash - 1);
        String numbers = (text.substring(colon + 1) + "0000").substring(0, 4);
        return text.substring(0, slash + 1) + inner + ":" + numbers;
    }

    int board() {
        if (page.isEmpty() || LETTERS.indexOf(page.charAt(0)) < 0 || !isWithContent(page.substring(1), 1)) {
            return STATE;
        }
        String before = board;
        board = completed(page);
        if (boxes().size() > 9) {
            board = before;
            return STATE;
        }
        page = "";
        seen.clear();
        savedBoard = null;
        reads++;
        return boxes().size();
    }

    int filling() {
        if (board == null || !page.matches("[1-4]*") || page.length() != boxes().size()) {
            return STATE;
        }
        String asked = page;
        page = "";
        for (int way = 0; way < ways().size(); way++) {
            StringBuilder text = new StringBuilder();
            for (int number : ways().get(way)) {
                text.append(number);
            }
            if (text.toString().equals(asked)) {
                return way;
            }
        }
        return NONE;
    }

    int text(int place) {
        return board == null || place < 0 || place >= board.length() ? UNKNOWN : board.charAt(place);
    }

    int about(int what) {
        if (what < 0 || what > 4) {
            return OUTSIDE;
        }
        if (board == null) {
            return STATE;
        }
        int[] answers = {kind(), boxes().size(), rows(), sum(numbers()), ways().size()};
        return answers[what];
    }

    int as(int kind) {
        if (kind < 0 || kind > 4) {
            return OUTSIDE;
        }
        if (board == null) {
            return STATE;
        }
        boolean is = kind == kind() || kind == 0 || (kind() == 2 && kind == 1);
        return is ? kind() : NONE;
    }

    private boolean noRow(int row) {
        return board == null || row < 0 || row >= rows();
    }

    int row(int row, int what) {
        if (noRow(row)) {
            return UNKNOWN;
        }
        if (what != 0 && what != 1) {
            return OUTSIDE;
        }
        return what == 0 ? outer()[row] : inner()[row];
    }

    int content(int number) {
        if (number < 1 || number > 4) {
            return OUTSIDE;
        }
        return board == null ? STATE : numbers()[number - 1];
    }

    int box(int box, int what) {
        if (box < 0 || box >= boxes().size()) {
            return UNKNOWN;
        }
        return what != 0 && what != 1 ? OUTSIDE : boxes().get(box)[what];
    }

    int be(int kind) {
        if (kind < 0 || kind > 4) {
            return OUTSIDE;
        }
        if (board == null) {
            return STATE;
        }
        int previous = kind();
        board = textOf(kind, outer(), inner(), numbers());
        return previous;
    }

    private static boolean lengthsAllowed(int[] outer, int[] inner) {
        for (int r = 0; r < outer.length; r++) {
            boolean allowed = outer[r] >= 1 && outer[r] <= 5 && inner[r] >= 0 && inner[r] <= 5
                && inner[r] <= outer[r]
                && (r == 0 || (outer[r] <= outer[r - 1] && inner[r] <= inner[r - 1]));
            if (!allowed) {
                return false;
            }
        }
        return true;
    }

    int grow(int row, boolean more) {
        if (noRow(row)) {
            return UNKNOWN;
        }
        int[] outer = outer();
        outer[row] += more ? 1 : -1;
        if (!lengthsAllowed(outer, inner())) {
            return STATE;
        }
        if (boxesOf(outer, inner()).size() > 9) {
            return FULL;
        }
        board = textOf(kind(), outer, inner(), numbers());
        return boxes().size();
    }

    int cut(int row, int length) {
        if (noRow(row)) {
            return UNKNOWN;
        }
        int[] inner = inner();
        int previous = inner[row];
        inner[row] = length;
        if (!lengthsAllowed(outer(), inner)) {
            return STATE;
        }
        if (boxesOf(outer(), inner).size() > 9) {
            return FULL;
        }
        board = textOf(kind(), outer(), inner, numbers());
        return previous;
    }

    int give(int from, int to) {
        if (from < 1 || from > 4 || to < 1 || to > 4) {
            return OUTSIDE;
        }
        if (board == null || numbers()[from - 1] == 0) {
            return STATE;
        }
        int[] numbers = numbers();
        if (numbers[to - 1] == 9) {
            return FULL;
        }
        numbers[from - 1]--;
        numbers[to - 1]++;
        board = textOf(kind(), outer(), inner(), numbers);
        return numbers[to - 1];
    }

    int way(int way, int box) {
        boolean there = way >= 0 && way < ways().size() && box >= 0 && box < boxes().size();
        return there ? ways().get(way)[box] : UNKNOWN;
    }

    int hive(int way, int i, int j) {
        if (way < 0 || way >= ways().size()) {
            return UNKNOWN;
        }
        if (i < 0 || i > rows() || j < 0 || j > 4) {
            return OUTSIDE;
        }
        int sum = 0;
        for (int r = 0; r < i; r++) {
            sum += inner()[r];
        }
        for (int b = 0; b < boxes().size(); b++) {
            sum += boxes().get(b)[0] < i && ways().get(way)[b] <= j ? 1 : 0;
        }
        return sum;
    }

    int terms() {
        return board == null ? STATE : termList().size();
    }

    int term(int term, int what) {
        if (term < 0 || term >= termList().size()) {
            return UNKNOWN;
        }
        return what < 0 || what > 4 ? OUTSIDE : termList().get(term)[what];
    }

    int see(int what, boolean can) {
        if (what < 0 || what > 3) {
            return OUTSIDE;
        }
        if (board == null) {
            return STATE;
        }
        if (seen.size() == 6) {
            return FULL;
        }
        seen.add(new int[] {what, can ? 1 : 0});
        return seen.size();
    }

    int forget() {
        int had = seen.size();
        seen.clear();
        return had;
    }

    private List<Integer> agreeing() {
        List<Integer> kinds = new ArrayList<>();
        for (int kind = 0; kind < 5; kind++) {
            boolean agrees = true;
            for (int[] one : seen) {
                agrees &= CAN[one[0]][kind] == (one[1] == 1);
            }
            if (agrees) {
                kinds.add(kind);
            }
        }
        return kinds;
    }

    int sorts(int what) {
        if (what != 0 && what != 1) {
            return OUTSIDE;
        }
        List<Integer> kinds = agreeing();
        if (what == 0) {
            int set = 0;
            for (int kind : kinds) {
                set |= 1 << kind;
            }
            return set;
        }
        List<Integer> greater = new ArrayList<>();
        for (boolean[] row : CAN) {
            int can = 0;
            for (int kind : kinds) {
                can += row[kind] ? 1 : 0;
            }
            greater.add(Math.max(can, kinds.size() - can));
        }
        return kinds.isEmpty() ? NONE : greater.indexOf(Collections.min(greater));
    }

    int drawn(int times, int seed, int what) {
        if (times < 1 || times > 100 || seed < 0 || what < 0 || what > 2) {
            return OUTSIDE;
        }
        if (board == null) {
            return STATE;
        }
        long z = seed;
        int[] answers = new int[2];
        List<int[]> boxes = boxes();
        for (int time = 0; time < times; time++) {
            int[] filling = new int[boxes.size()];
            int[] numbers = new int[4];
            for (int b = 0; b < filling.length; b++) {
                z = (1103515245L * z + 12345L) % 2147483648L;
                filling[b] = 1 + (int) (z / 65536 % 4);
                numbers[filling[b] - 1]++;
            }
            boolean satisfying = satisfies(kind(), boxes, filling);
            answers[0] += satisfying ? 1 : 0;
            answers[1] += satisfying && java.util.Arrays.equals(numbers, numbers()) ? 1 : 0;
        }
        return what == 2 ? (int) z : answers[what];
    }

    int image() {
        if (board == null) {
            return STATE;
        }
        savedBoard = board;
        savedSeen = new ArrayList<>(seen);
        return boxes().size();
    }

    int restore() {
        if (savedBoard == null) {
            return STATE;
        }
        board = savedBoard;
        seen = new ArrayList<>(savedSeen);
        return boxes().size();
    }

    int count(int what) {
        switch (what) {
            case 0:
                return boxes().size();
            case 1:
                return board == null ? 0 : rows();
            case 2:
                return ways().size();
            case 3:
                return termList().size();
            case 4:
                int sum = 0;
                for (int[] term : termList()) {
                    sum += term[4];
                }
                return sum;
            case 5:
                return seen.size();
            case 6:
                return page.length();
            case 7:
                return reads;
            default:
                return OUTSIDE;
        }
    }

    long digest() {
        List<Integer> values = new ArrayList<>();
        if (board != null) {
            addBoardValues(values);
        }
        values.add(sorts(0));
        values.add(sorts(1));
        for (char sign : page.toCharArray()) {
            values.add((int) sign);
        }
        for (int what = 0; what < 8; what++) {
            values.add(count(what));
        }
        long h = 1471;
        for (int v : values) {
            h = 31 * h + v;
        }
        return h;
    }

    private void addBoardValues(List<Integer> values) {
        for (int what = 0; what < 5; what++) {
            values.add(about(what));
        }
        for (char sign : board.toCharArray()) {
            values.add((int) sign);
        }
        for (int way = 0; way < Math.min(3, ways().size()); way++) {
            for (int number : ways().get(way)) {
                values.add(number);
            }
            for (int i = 0; i <= rows(); i++) {
                for (int j = 0; j <= 4; j++) {
                    values.add(hive(way, i, j));
                }
            }
        }
        for (int[] term : termList()) {
            for (int value : term) {
                values.add(value);
            }
        }
    }
}
