import java.util.Arrays;

/**
 * A workbench for skew tableaux. The document DOC.md says what each public method does; README.md
 * says how the parts below work together.
 */
public final class SkewBoard {
    public static final int NONE = -1, UNKNOWN = -101, OUTSIDE = -102, STATE = -103, FULL = -104;

    private static final int MAX_ROWS = 4;
    private static final int MAX_LENGTH = 5;
    private static final int MAX_NUMBER = 4;
    private static final int MAX_TIMES_THERE = 9;
    private static final int MAX_BOXES = 9;
    private static final int MAX_SIGNS = 20;
    private static final int MAX_OBSERVATIONS = 6;
    private static final int MAX_DRAWN = 100;
    private static final int FIRST_CODE = 32;
    private static final int LAST_CODE = 126;

    private static final int PLAIN = 0;
    private static final int COLUMNS = 1;
    private static final int LATTICE = 2;
    private static final int STRICT = 3;
    private static final int TURNED = 4;
    private static final int KINDS = 5;
    private static final int ALL_KINDS = 31;
    private static final String RULE_LETTERS = "fclst";

    /** For each thing to observe the set of the kinds with which it can be. */
    private static final int[] CAN_BE = {23, 9, 16, 27};

    private static final int DIGEST_START = 1471;
    private static final int DIGEST_FILLINGS = 3;

    private final Page page = new Page();
    private final Reader reader = new Reader();
    private final Plan plan = new Plan();
    private final Plan draft = new Plan();
    private final Observations observations = new Observations();
    private final Plan savedPlan = new Plan();
    private final Observations savedObservations = new Observations();
    private boolean saved;
    private int boardsRead;

    private final Fillings fillings = new Fillings();
    private final Products products = new Products();
    private boolean fillingsFresh;
    private boolean productsFresh;

    public SkewBoard() {
    }

    // ---- texts

    public int letter(int code) {
        if (code < FIRST_CODE || code > LAST_CODE) {
            return OUTSIDE;
        }
        return page.append(code) ? page.size : FULL;
    }

    public int blank() {
        int had = page.size;
        page.clear();
        return had;
    }

    public int fault() {
        return reader.readFrom(page);
    }

    public int board() {
        boolean allRead = reader.readFrom(page) == page.size;
        if (!allRead || !reader.isComplete() || reader.plan.boxCount() > MAX_BOXES) {
            return STATE;
        }
        plan.takeOver(reader.plan);
        planChanged();
        page.clear();
        observations.clear();
        saved = false;
        boardsRead++;
        return plan.boxCount();
    }

    public int filling() {
        if (plan.isMissing() || !page.isFillingOf(plan.boxCount())) {
            return STATE;
        }
        int code = page.fillingCode();
        page.clear();
        return freshFillings().indexOf(code);
    }

    public int text(int place) {
        return plan.signAt(place);
    }

    // ---- the board

    public int about(int what) {
        if (what < 0 || what > 4) {
            return OUTSIDE;
        }
        if (plan.isMissing()) {
            return STATE;
        }
        switch (what) {
            case 0:
                return plan.kind;
            case 1:
                return plan.boxCount();
            case 2:
                return plan.rows;
            case 3:
                return plan.contentSum();
            default:
                return freshFillings().size;
        }
    }

    public int as(int kind) {
        if (!isKind(kind)) {
            return OUTSIDE;
        }
        if (plan.isMissing()) {
            return STATE;
        }
        return extendsKind(plan.kind, kind) ? plan.kind : NONE;
    }

    public int row(int row, int what) {
        if (!plan.hasRow(row)) {
            return UNKNOWN;
        }
        if (what < 0 || what > 1) {
            return OUTSIDE;
        }
        return what == 0 ? plan.outer[row] : plan.inner[row];
    }

    public int content(int number) {
        if (!isNumber(number)) {
            return OUTSIDE;
        }
        if (plan.isMissing()) {
            return STATE;
        }
        return plan.content[number - 1];
    }

    public int box(int box, int what) {
        Grid grid = freshFillings().grid;
        if (!grid.hasBox(box)) {
            return UNKNOWN;
        }
        if (what < 0 || what > 1) {
            return OUTSIDE;
        }
        return what == 0 ? grid.rowOf[box] : grid.columnOf[box];
    }

    // ---- changes

    public int be(int kind) {
        if (!isKind(kind)) {
            return OUTSIDE;
        }
        if (plan.isMissing()) {
            return STATE;
        }
        int previous = plan.kind;
        plan.kind = kind;
        fillingsFresh = false;
        return previous;
    }

    public int grow(int row, boolean more) {
        if (!plan.hasRow(row)) {
            return UNKNOWN;
        }
        draft.takeOver(plan);
        draft.outer[row] += more ? 1 : -1;
        int error = draftError();
        if (error != 0) {
            return error;
        }
        plan.takeOver(draft);
        planChanged();
        return plan.boxCount();
    }

    public int cut(int row, int inner) {
        if (!plan.hasRow(row)) {
            return UNKNOWN;
        }
        draft.takeOver(plan);
        draft.inner[row] = inner;
        int error = draftError();
        if (error != 0) {
            return error;
        }
        int previous = plan.inner[row];
        plan.takeOver(draft);
        planChanged();
        return previous;
    }

    public int give(int from, int to) {
        if (!isNumber(from) || !isNumber(to)) {
            return OUTSIDE;
        }
        if (plan.isMissing() || plan.content[from - 1] == 0) {
            return STATE;
        }
        if (plan.content[to - 1] >= MAX_TIMES_THERE) {
            return FULL;
        }
        plan.content[from - 1]--;
        plan.content[to - 1]++;
        planChanged();
        return plan.content[to - 1];
    }

    // ---- fillings, terms

    public int way(int way, int box) {
        Fillings fresh = freshFillings();
        if (!fresh.hasFilling(way) || !fresh.grid.hasBox(box)) {
            return UNKNOWN;
        }
        return fresh.numberIn(way, box);
    }

    public int hive(int way, int i, int j) {
        Fillings fresh = freshFillings();
        if (!fresh.hasFilling(way)) {
            return UNKNOWN;
        }
        if (i < 0 || i > plan.rows || j < 0 || j > MAX_NUMBER) {
            return OUTSIDE;
        }
        return partialSum(fresh, way, i, j);
    }

    public int terms() {
        if (plan.isMissing()) {
            return STATE;
        }
        return freshProducts().size;
    }

    public int term(int term, int what) {
        Products fresh = freshProducts();
        if (!fresh.hasTerm(term)) {
            return UNKNOWN;
        }
        if (what < 0 || what > MAX_ROWS) {
            return OUTSIDE;
        }
        return fresh.propertyOf(term, what);
    }

    // ---- observations, random fillings

    public int see(int what, boolean can) {
        if (what < 0 || what >= CAN_BE.length) {
            return OUTSIDE;
        }
        if (plan.isMissing()) {
            return STATE;
        }
        if (observations.size >= MAX_OBSERVATIONS) {
            return FULL;
        }
        observations.add(what, can);
        return observations.size;
    }

    public int forget() {
        int had = observations.size;
        observations.clear();
        return had;
    }

    public int sorts(int what) {
        if (what < 0 || what > 1) {
            return OUTSIDE;
        }
        return what == 0 ? observations.kinds : observations.bestQuestion();
    }

    public int drawn(int times, int seed, int what) {
        if (times < 1 || times > MAX_DRAWN || seed < 0 || what < 0 || what > 2) {
            return OUTSIDE;
        }
        if (plan.isMissing()) {
            return STATE;
        }
        Fillings fresh = freshFillings();
        long z = seed;
        int satisfying = 0;
        int proper = 0;
        for (int time = 0; time < times; time++) {
            z = fresh.drawNumbers(z);
            if (fresh.satisfiesRule()) {
                satisfying++;
                proper += fresh.hasContent(plan) ? 1 : 0;
            }
        }
        if (what == 2) {
            return (int) z;
        }
        return what == 0 ? satisfying : proper;
    }

    // ---- saved state, counts, checksum

    public int image() {
        if (plan.isMissing()) {
            return STATE;
        }
        savedPlan.takeOver(plan);
        savedObservations.takeOver(observations);
        saved = true;
        return plan.boxCount();
    }

    public int restore() {
        if (!saved) {
            return STATE;
        }
        plan.takeOver(savedPlan);
        planChanged();
        observations.takeOver(savedObservations);
        return plan.boxCount();
    }

    public int count(int what) {
        switch (what) {
            case 0:
                return plan.boxCount();
            case 1:
                return plan.rows;
            case 2:
                return freshFillings().size;
            case 3:
                return freshProducts().size;
            case 4:
                return freshProducts().multiplicitySum;
            case 5:
                return observations.size;
            case 6:
                return page.size;
            case 7:
                return boardsRead;
            default:
                return OUTSIDE;
        }
    }

    public long digest() {
        long h = DIGEST_START;
        if (!plan.isMissing()) {
            for (int what = 0; what <= 4; what++) {
                h = mix(h, about(what));
            }
            for (int place = 0; place < plan.signCount(); place++) {
                h = mix(h, text(place));
            }
            h = digestFillings(h);
            h = digestTerms(h);
        }
        h = mix(h, sorts(0));
        h = mix(h, sorts(1));
        for (int place = 0; place < page.size; place++) {
            h = mix(h, page.codes[place]);
        }
        for (int what = 0; what <= 7; what++) {
            h = mix(h, count(what));
        }
        return h;
    }

    private static long mix(long h, long value) {
        return 31 * h + value;
    }

    private long digestFillings(long start) {
        long h = start;
        Fillings fresh = freshFillings();
        for (int way = 0; way < fresh.size && way < DIGEST_FILLINGS; way++) {
            for (int box = 0; box < fresh.grid.size; box++) {
                h = mix(h, fresh.numberIn(way, box));
            }
            for (int i = 0; i <= plan.rows; i++) {
                for (int j = 0; j <= MAX_NUMBER; j++) {
                    h = mix(h, partialSum(fresh, way, i, j));
                }
            }
        }
        return h;
    }

    private long digestTerms(long start) {
        long h = start;
        Products fresh = freshProducts();
        for (int term = 0; term < fresh.size; term++) {
            for (int what = 0; what <= MAX_ROWS; what++) {
                h = mix(h, fresh.propertyOf(term, what));
            }
        }
        return h;
    }

    // ---- helpers

    private static boolean isKind(int kind) {
        return kind >= 0 && kind < KINDS;
    }

    private static boolean isNumber(int number) {
        return number >= 1 && number <= MAX_NUMBER;
    }

    private static boolean extendsKind(int own, int kind) {
        return kind == own || kind == PLAIN || (kind == COLUMNS && own == LATTICE);
    }

    private int partialSum(Fillings fresh, int way, int i, int j) {
        return plan.innerSum(i) + fresh.boxesUpTo(way, i, j);
    }

    /** What forbids the draft as the new board, or 0. */
    private int draftError() {
        if (!draft.lengthsAllowed()) {
            return STATE;
        }
        return draft.boxCount() > MAX_BOXES ? FULL : 0;
    }

    private void planChanged() {
        fillingsFresh = false;
        productsFresh = false;
    }

    private Fillings freshFillings() {
        if (!fillingsFresh) {
            fillings.findAll(plan);
            fillingsFresh = true;
        }
        return fillings;
    }

    private Products freshProducts() {
        if (!productsFresh) {
            products.findAll(plan);
            productsFresh = true;
        }
        return products;
    }

    /** The page of characters. */
    private static final class Page {
        final int[] codes = new int[MAX_SIGNS];
        int size;

        boolean append(int code) {
            if (size >= MAX_SIGNS) {
                return false;
            }
            codes[size] = code;
            size++;
            return true;
        }

        void clear() {
            size = 0;
        }

        boolean isFillingOf(int boxes) {
            if (size != boxes) {
                return false;
            }
            for (int place = 0; place < size; place++) {
                if (!isNumber(codes[place] - '0')) {
                    return false;
                }
            }
            return true;
        }

        /** The code of the filling on the page, as Fillings holds it. */
        int fillingCode() {
            int code = 0;
            for (int place = 0; place < size; place++) {
                code = Fillings.codeWith(code, codes[place] - '0');
            }
            return code;
        }
    }

    /** What a board is; with no rows it stands for no board. */
    private static final class Plan {
        int kind;
        int rows;
        final int[] outer = new int[MAX_ROWS];
        final int[] inner = new int[MAX_ROWS];
        final int[] content = new int[MAX_NUMBER];

        boolean isMissing() {
            return rows == 0;
        }

        boolean hasRow(int row) {
            return row >= 0 && row < rows;
        }

        void clear() {
            kind = PLAIN;
            rows = 0;
            Arrays.fill(outer, 0);
            Arrays.fill(inner, 0);
            Arrays.fill(content, 0);
        }

        void takeOver(Plan other) {
            kind = other.kind;
            rows = other.rows;
            System.arraycopy(other.outer, 0, outer, 0, MAX_ROWS);
            System.arraycopy(other.inner, 0, inner, 0, MAX_ROWS);
            System.arraycopy(other.content, 0, content, 0, MAX_NUMBER);
        }

        int boxCount() {
            int sum = 0;
            for (int row = 0; row < rows; row++) {
                sum += outer[row] - inner[row];
            }
            return sum;
        }

        int contentSum() {
            int sum = 0;
            for (int times : content) {
                sum += times;
            }
            return sum;
        }

        int innerSum(int firstRows) {
            int sum = 0;
            for (int row = 0; row < firstRows && row < rows; row++) {
                sum += inner[row];
            }
            return sum;
        }

        boolean lengthsAllowed() {
            for (int row = 0; row < rows; row++) {
                if (!outerAllowed(row, outer[row]) || !innerAllowed(row, inner[row])) {
                    return false;
                }
            }
            return true;
        }

        boolean outerAllowed(int row, int length) {
            int most = row == 0 ? MAX_LENGTH : outer[row - 1];
            return length >= 1 && length <= most;
        }

        boolean innerAllowed(int row, int length) {
            int most = row == 0 ? MAX_LENGTH : inner[row - 1];
            return length >= 0 && length <= most && length <= outer[row];
        }

        int signCount() {
            return rows == 0 ? 0 : 3 + 2 * rows + MAX_NUMBER;
        }

        int signAt(int place) {
            if (place < 0 || place >= signCount()) {
                return UNKNOWN;
            }
            int slash = 1 + rows;
            int colon = slash + 1 + rows;
            if (place == 0) {
                return RULE_LETTERS.charAt(kind);
            }
            if (place < slash) {
                return '0' + outer[place - 1];
            }
            if (place == slash) {
                return '/';
            }
            if (place < colon) {
                return '0' + inner[place - slash - 1];
            }
            return place == colon ? ':' : '0' + content[place - colon - 1];
        }
    }

    /** Reads board texts, sign by sign, into a plan of its own. */
    private static final class Reader {
        private static final int AT_RULE = 0;
        private static final int AT_OUTER = 1;
        private static final int AT_INNER = 2;
        private static final int AT_CONTENT = 3;

        final Plan plan = new Plan();
        private int stage;
        private int digits;

        /** The index of the first sign with which no board text continues, or the page's size. */
        int readFrom(Page page) {
            plan.clear();
            enter(AT_RULE);
            for (int place = 0; place < page.size; place++) {
                if (!accepts(page.codes[place])) {
                    return place;
                }
            }
            return page.size;
        }

        /** Whether what was read needs no more signs. */
        boolean isComplete() {
            return stage == AT_CONTENT && digits > 0;
        }

        private void enter(int next) {
            stage = next;
            digits = 0;
        }

        private boolean accepts(int code) {
            switch (stage) {
                case AT_RULE:
                    return acceptsRule(code);
                case AT_OUTER:
                    return acceptsOuter(code);
                case AT_INNER:
                    return acceptsInner(code);
                default:
                    return acceptsContent(code);
            }
        }

        private boolean acceptsRule(int code) {
            int kind = RULE_LETTERS.indexOf((char) code);
            if (kind < 0) {
                return false;
            }
            plan.kind = kind;
            enter(AT_OUTER);
            return true;
        }

        private boolean acceptsOuter(int code) {
            if (code == '/' && digits > 0) {
                enter(AT_INNER);
                return true;
            }
            int length = code - '0';
            if (digits >= MAX_ROWS || !plan.outerAllowed(digits, length)) {
                return false;
            }
            plan.outer[digits] = length;
            digits++;
            plan.rows = digits;
            return true;
        }

        private boolean acceptsInner(int code) {
            if (code == ':') {
                enter(AT_CONTENT);
                return true;
            }
            int length = code - '0';
            if (digits >= plan.rows || !plan.innerAllowed(digits, length)) {
                return false;
            }
            plan.inner[digits] = length;
            digits++;
            return true;
        }

        private boolean acceptsContent(int code) {
            int times = code - '0';
            if (digits >= MAX_NUMBER || times < 0 || times > MAX_TIMES_THERE) {
                return false;
            }
            plan.content[digits] = times;
            digits++;
            return true;
        }
    }

    /** The observations: how many there are, and the set of the kinds that agree with all of them. */
    private static final class Observations {
        int size;
        int kinds = ALL_KINDS;

        void clear() {
            size = 0;
            kinds = ALL_KINDS;
        }

        void takeOver(Observations other) {
            size = other.size;
            kinds = other.kinds;
        }

        void add(int what, boolean can) {
            kinds &= can ? CAN_BE[what] : ~CAN_BE[what];
            size++;
        }

        int bestQuestion() {
            if (kinds == 0) {
                return NONE;
            }
            int best = 0;
            for (int what = 1; what < CAN_BE.length; what++) {
                if (mostLeftBy(what) < mostLeftBy(best)) {
                    best = what;
                }
            }
            return best;
        }

        /** How many kinds are left after the worse answer to a question. */
        private int mostLeftBy(int what) {
            int can = Integer.bitCount(kinds & CAN_BE[what]);
            return Math.max(can, Integer.bitCount(kinds) - can);
        }
    }

    /** The boxes of a board, with the neighbours that come before each of them, or NONE. */
    private static final class Grid {
        final int[] rowOf = new int[MAX_BOXES];
        final int[] columnOf = new int[MAX_BOXES];
        final int[] before = new int[MAX_BOXES];
        final int[] above = new int[MAX_BOXES];
        final int[] rowStart = new int[MAX_BOXES];
        int size;

        boolean hasBox(int box) {
            return box >= 0 && box < size;
        }

        void layOut(Plan plan) {
            size = 0;
            for (int row = 0; row < plan.rows; row++) {
                int start = size;
                for (int column = plan.inner[row]; column < plan.outer[row]; column++) {
                    addBox(row, column, start);
                }
            }
        }

        private void addBox(int row, int column, int start) {
            if (size >= MAX_BOXES) {
                return;
            }
            rowOf[size] = row;
            columnOf[size] = column;
            before[size] = size > start ? size - 1 : NONE;
            above[size] = boxAt(row - 1, column);
            rowStart[size] = start;
            size++;
        }

        private int boxAt(int row, int column) {
            for (int box = 0; box < size; box++) {
                if (rowOf[box] == row && columnOf[box] == column) {
                    return box;
                }
            }
            return NONE;
        }
    }

    /** The proper fillings of a board, and one filling that is being made or looked at. */
    private static final class Fillings {
        /** Nine boxes in four rows have at most 396 plain fillings with a given content. */
        private static final int CAPACITY = 400;

        final Grid grid = new Grid();
        int size;
        private int kind;
        private final int[] codes = new int[CAPACITY];
        private final int[] numbers = new int[MAX_BOXES];
        private final int[] left = new int[MAX_NUMBER];

        /** Adds the number of one more box to a code; two bits a box, so that codes are in order. */
        static int codeWith(int code, int number) {
            return 4 * code + number - 1;
        }

        void findAll(Plan plan) {
            size = 0;
            kind = plan.kind;
            grid.layOut(plan);
            System.arraycopy(plan.content, 0, left, 0, MAX_NUMBER);
            if (!plan.isMissing() && plan.contentSum() == grid.size) {
                fillFrom(0, 0);
            }
        }

        /** Fills the boxes from this one on in all ways; the depth is the box, nine at most. */
        private void fillFrom(int box, int code) {
            if (box >= grid.size || box >= MAX_BOXES) {
                keep(code);
                return;
            }
            for (int number = 1; number <= MAX_NUMBER; number++) {
                numbers[box] = number;
                if (left[number - 1] > 0 && fits(box)) {
                    left[number - 1]--;
                    fillFrom(box + 1, codeWith(code, number));
                    left[number - 1]++;
                }
            }
        }

        private void keep(int code) {
            if (size < CAPACITY) {
                codes[size] = code;
                size++;
            }
        }

        boolean hasFilling(int way) {
            return way >= 0 && way < size;
        }

        int numberIn(int way, int box) {
            int shift = 2 * (grid.size - 1 - box);
            return 1 + ((codes[way] >> shift) & 3);
        }

        int boxesUpTo(int way, int rows, int number) {
            int sum = 0;
            for (int box = 0; box < grid.size; box++) {
                if (grid.rowOf[box] < rows && numberIn(way, box) <= number) {
                    sum++;
                }
            }
            return sum;
        }

        int indexOf(int code) {
            for (int way = 0; way < size; way++) {
                if (codes[way] == code) {
                    return way;
                }
            }
            return NONE;
        }

        /** Puts a random number into each box and returns the z behind the last draw. */
        long drawNumbers(long start) {
            long z = start;
            for (int box = 0; box < grid.size; box++) {
                z = (1103515245L * z + 12345L) & 0x7fffffffL;
                numbers[box] = 1 + (int) ((z >> 16) & 3);
            }
            return z;
        }

        boolean satisfiesRule() {
            for (int box = 0; box < grid.size; box++) {
                if (!fits(box)) {
                    return false;
                }
            }
            return true;
        }

        boolean hasContent(Plan plan) {
            for (int number = 1; number <= MAX_NUMBER; number++) {
                if (timesThere(number) != plan.content[number - 1]) {
                    return false;
                }
            }
            return true;
        }

        private int timesThere(int number) {
            int times = 0;
            for (int box = 0; box < grid.size; box++) {
                if (numbers[box] == number) {
                    times++;
                }
            }
            return times;
        }

        /** Whether the number in a box agrees by the rule with those in the boxes before it. */
        private boolean fits(int box) {
            int number = numbers[box];
            int before = grid.before[box];
            int above = grid.above[box];
            if (before >= 0 && !mayStandBeside(kind, numbers[before], number)) {
                return false;
            }
            if (above >= 0 && !mayStandBelow(kind, numbers[above], number)) {
                return false;
            }
            return kind != LATTICE || keepsLattice(box);
        }

        private static boolean mayStandBeside(int kind, int number, int next) {
            switch (kind) {
                case STRICT:
                    return number < next;
                case TURNED:
                    return number >= next;
                default:
                    return number <= next;
            }
        }

        private static boolean mayStandBelow(int kind, int number, int below) {
            switch (kind) {
                case PLAIN:
                    return true;
                case STRICT:
                    return number <= below;
                case TURNED:
                    return number > below;
                default:
                    return number < below;
            }
        }

        /**
         * A row does not decrease, so it is read with its greater numbers first: all its k + 1 come
         * before its first k, and can only be matched by the k of the rows above.
         */
        private boolean keepsLattice(int box) {
            int number = numbers[box];
            int there = 0;
            int matched = 0;
            for (int earlier = 0; earlier <= box; earlier++) {
                if (numbers[earlier] == number) {
                    there++;
                } else if (numbers[earlier] == number - 1 && earlier < grid.rowStart[box]) {
                    matched++;
                }
            }
            return number == 1 || there <= matched;
        }
    }

    /**
     * The terms of a board. A lattice filling is known from how many times each row has each number,
     * so these amounts are chosen, row by row, for all outer lengths at once.
     */
    private static final class Products {
        private static final int BASE = 10;
        private static final int KEYS = BASE * BASE * BASE;
        /** Nine boxes can be shared among four rows in 220 ways. */
        private static final int CAPACITY = 220;

        int size;
        int multiplicitySum;
        private int boxes;
        private final int[] inner = new int[MAX_ROWS];
        private final int[] used = new int[MAX_NUMBER + 1];
        private final int[] left = new int[MAX_NUMBER + 1];
        /** For each row and number the column behind the last box with at most that number. */
        private final int[][] ends = new int[MAX_ROWS][MAX_NUMBER + 1];
        /** How many fillings there are for the boxes in the rows 0 to 2, which are a key's digits. */
        private final int[] fillingsOf = new int[KEYS];
        private final int[] keys = new int[CAPACITY];

        void findAll(Plan plan) {
            size = 0;
            multiplicitySum = 0;
            boxes = plan.contentSum();
            if (plan.isMissing() || boxes > MAX_BOXES) {
                return;
            }
            Arrays.fill(fillingsOf, 0);
            Arrays.fill(used, 0);
            System.arraycopy(plan.content, 0, left, 1, MAX_NUMBER);
            System.arraycopy(plan.inner, 0, inner, 0, MAX_ROWS);
            for (int row = 0; row < MAX_ROWS; row++) {
                ends[row][0] = inner[row];
            }
            share(0, 1);
            collect();
        }

        /** Gives the row all possible amounts of the number, and goes on; at most 21 levels deep. */
        private void share(int row, int number) {
            if (row >= MAX_ROWS) {
                tally();
                return;
            }
            if (number > MAX_NUMBER) {
                share(row + 1, 1);
                return;
            }
            int least = row == MAX_ROWS - 1 ? left[number] : 0;
            int most = mostOf(row, number);
            for (int amount = least; amount <= most; amount++) {
                ends[row][number] = ends[row][number - 1] + amount;
                used[number] += amount;
                left[number] -= amount;
                share(row, number + 1);
                used[number] -= amount;
                left[number] += amount;
            }
        }

        private int mostOf(int row, int number) {
            int most = left[number];
            if (row > 0) {
                // columns: above these boxes there are smaller numbers or none
                most = Math.min(most, ends[row - 1][number - 1] - ends[row][number - 1]);
            }
            if (number > 1) {
                // lattice: see Fillings.keepsLattice
                int here = ends[row][number - 1] - ends[row][number - 2];
                most = Math.min(most, used[number - 1] - here - used[number]);
            }
            return most;
        }

        private void tally() {
            int key = 0;
            for (int row = 0; row < MAX_ROWS - 1; row++) {
                key = BASE * key + ends[row][MAX_NUMBER] - inner[row];
            }
            if (key >= 0 && key < KEYS) {
                fillingsOf[key]++;
            }
        }

        private void collect() {
            for (int key = KEYS - 1; key >= 0; key--) {
                if (fillingsOf[key] > 0 && size < CAPACITY) {
                    keys[size] = key;
                    size++;
                    multiplicitySum += fillingsOf[key];
                }
            }
        }

        boolean hasTerm(int term) {
            return term >= 0 && term < size;
        }

        /** An outer length of the term, or behind the last of them its multiplicity. */
        int propertyOf(int term, int what) {
            int key = keys[term];
            int first = key / (BASE * BASE);
            int second = key / BASE % BASE;
            int third = key % BASE;
            switch (what) {
                case 0:
                    return inner[0] + first;
                case 1:
                    return inner[1] + second;
                case 2:
                    return inner[2] + third;
                case 3:
                    return inner[3] + boxes - first - second - third;
                default:
                    return fillingsOf[key];
            }
        }
    }
}
