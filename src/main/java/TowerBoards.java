import java.util.Arrays;

/**
 * Towers that do not take one another, on boards of at most 6 by 6 places.
 * The document in shared/DOC.md tells what each call promises.
 */
public final class TowerBoards {
    public static final int BAD = -1, FULL = -2, FINDING = -3, STATE = -4, NONE = -9;

    private static final int NOTHING = 1, BEYOND = 2, UNLIKE = 3, NOUGHT = 4, SIZE = 5;
    private static final int PLAIN = 0, STAIRS = 1, RING = 2, PAIRED = 3;
    private static final int MISSING = -1;

    private static final int ROWS = 8;
    private static final int BOARDS = 12;
    private static final int SIDE = 6;
    private static final int SETS = 64;
    private static final int PLACES = 36;
    private static final int MOST_SLANTS = 11;
    private static final int MOST_WEIGHT = 1000;
    private static final int MOST_X = 50;

    private final Row[] rows = new Row[ROWS];
    private final Board[] boards = new Board[BOARDS];
    private final int[] findingCounts = new int[SIZE + 1];

    private final Board draft = new Board();
    private final Numbers numbers = new Numbers();
    private final Numbers otherNumbers = new Numbers();
    private final Order order = new Order();
    private final FreeCells freeCells = new FreeCells();
    private final Lightest lightest = new Lightest();
    private final Lengths lengths = new Lengths();
    private final Arrows arrows = new Arrows();

    private long latestWays = 0;
    private int latestAsked = 0;
    private long latestUpper = 0;
    private long latestLower = 1;
    private int latestFinding = 0;

    public TowerBoards() {
        for (int r = 0; r < ROWS; r++) {
            rows[r] = new Row();
        }
        for (int b = 0; b < BOARDS; b++) {
            boards[b] = new Board();
        }
    }

    // ---- 1 rows, boards

    public int row(int r, int n) {
        if (!isRowNumber(r) || n > PLACES) {
            return BAD;
        }
        if (n < 0) {
            return refused(SIZE);
        }
        rows[r].begin(n);
        return n;
    }

    public int lay(int r, int i, int v) {
        if (!isRowNumber(r)) {
            return BAD;
        }
        Row row = rowAt(r);
        if (row == null) {
            return refused(NOTHING);
        }
        if (!row.hasPlace(i)) {
            return refused(BEYOND);
        }
        latestAsked = row.places[i];
        row.places[i] = v;
        return 1;
    }

    public int tear(int r) {
        if (!isRowNumber(r)) {
            return BAD;
        }
        Row row = rowAt(r);
        if (row == null) {
            return refused(NOTHING);
        }
        row.size = MISSING;
        return 1;
    }

    public int copy(int r, int i, int to, int j, int n) {
        if (!isRowNumber(r) || !isRowNumber(to)) {
            return BAD;
        }
        if (n < 0) {
            return refused(SIZE);
        }
        Row from = rowAt(r);
        Row target = rowAt(to);
        if (from == null || target == null) {
            return refused(NOTHING);
        }
        if (!from.hasSpan(i, n) || !target.hasSpan(j, n)) {
            return refused(BEYOND);
        }
        System.arraycopy(from.places, i, target.places, j, n);
        return 1;
    }

    public int mean(int r) {
        if (!isRowNumber(r)) {
            return BAD;
        }
        Row row = rowAt(r);
        if (row == null) {
            return refused(NOTHING);
        }
        if (row.size == 0) {
            return refused(NOUGHT);
        }
        latestAsked = (int) (row.total() / row.size);
        return 1;
    }

    public int board(int b, int v, int r) {
        if (!isBoardNumber(b) || !isWithin(v, 1, SIDE) || !isRowNumber(r)) {
            return BAD;
        }
        Row row = rowAt(r);
        if (row == null) {
            return refused(NOTHING);
        }
        if (!isWithin(row.size, 1, SIDE)) {
            return refused(SIZE);
        }
        if (!row.isAllWithin(0, (1 << v) - 1)) {
            return refused(UNLIKE);
        }
        draft.begin(PLAIN, row.size, v);
        for (int i = 0; i < row.size; i++) {
            draft.cells[i] = row.places[i];
        }
        return keepDraft(b);
    }

    public int stairs(int b, int v, int r) {
        if (!isBoardNumber(b) || !isWithin(v, 1, SIDE) || !isRowNumber(r)) {
            return BAD;
        }
        Row row = rowAt(r);
        if (row == null) {
            return refused(NOTHING);
        }
        if (!isWithin(row.size, 1, SIDE)) {
            return refused(SIZE);
        }
        if (!row.isAllWithin(0, v) || !row.isRising()) {
            return refused(UNLIKE);
        }
        draft.begin(STAIRS, row.size, v);
        for (int i = 0; i < row.size; i++) {
            draft.cells[i] = (1 << row.places[i]) - 1;
        }
        return keepDraft(b);
    }

    public int ring(int b, int n, int set) {
        if (!isBoardNumber(b) || !isWithin(n, 1, SIDE) || !isWithin(set, 0, (1 << n) - 1)) {
            return BAD;
        }
        int kind = n >= 2 && set == 3 ? PAIRED : RING;
        draft.begin(kind, n, n);
        for (int i = 0; i < n; i++) {
            // The differences that would pass the last column come in again at the first one.
            draft.cells[i] = ((set << i) | (set >> (n - i))) & draft.allColumns();
        }
        keepDraft(b);
        return kind;
    }

    public int drop(int b) {
        if (!isBoardNumber(b)) {
            return BAD;
        }
        Board board = boardAt(b);
        if (board == null) {
            return refused(NOTHING);
        }
        board.kind = MISSING;
        return 1;
    }

    public int told(int b, int what) {
        if (!isBoardNumber(b) || !isWithin(what, 0, 3)) {
            return BAD;
        }
        Board board = boardAt(b);
        if (board == null) {
            return refused(NOTHING);
        }
        switch (what) {
            case 0:
                latestAsked = board.kind;
                break;
            case 1:
                latestAsked = board.height;
                break;
            case 2:
                latestAsked = board.width;
                break;
            default:
                latestAsked = board.cellCount();
                break;
        }
        return 1;
    }

    public int is(int b, int kind) {
        if (!isBoardNumber(b) || !isWithin(kind, PLAIN, PAIRED)) {
            return BAD;
        }
        Board board = boardAt(b);
        if (board == null) {
            return refused(NOTHING);
        }
        return board.isOfKind(kind) ? 1 : 0;
    }

    public int mark(int b, int kind) {
        if (!isBoardNumber(b) || !isWithin(kind, STAIRS, PAIRED)) {
            return BAD;
        }
        Board board = boardAt(b);
        if (board == null) {
            return refused(NOTHING);
        }
        if (!board.isOfKind(kind)) {
            return refused(UNLIKE);
        }
        switch (kind) {
            case STAIRS:
                return board.unlikeLengths();
            case RING:
                // In row 0 the column is the difference itself.
                return board.cells[0];
            default:
                return board.height;
        }
    }

    public int cell(int b, int i, int j) {
        if (!isBoardNumber(b)) {
            return BAD;
        }
        Board board = boardAt(b);
        if (board == null) {
            return refused(NOTHING);
        }
        if (!board.hasPlace(i, j)) {
            return refused(BEYOND);
        }
        return board.hasCell(i, j) ? 1 : 0;
    }

    public int set(int b, int i, int j, boolean is) {
        if (!isBoardNumber(b)) {
            return BAD;
        }
        Board board = boardAt(b);
        if (board == null) {
            return refused(NOTHING);
        }
        if (board.kind != PLAIN) {
            return refused(UNLIKE);
        }
        if (!board.hasPlace(i, j)) {
            return refused(BEYOND);
        }
        boolean was = board.hasCell(i, j);
        board.cells[i] = is ? board.cells[i] | (1 << j) : board.cells[i] & ~(1 << j);
        return was ? 1 : 0;
    }

    public int other(int b, int to) {
        if (!isBoardNumber(b) || !isBoardNumber(to)) {
            return BAD;
        }
        Board board = boardAt(b);
        if (board == null) {
            return refused(NOTHING);
        }
        draft.begin(PLAIN, board.height, board.width);
        for (int i = 0; i < board.height; i++) {
            draft.cells[i] = board.allColumns() & ~board.cells[i];
        }
        return keepDraft(to);
    }

    public int turn(int b, int to) {
        if (!isBoardNumber(b) || !isBoardNumber(to)) {
            return BAD;
        }
        Board board = boardAt(b);
        if (board == null) {
            return refused(NOTHING);
        }
        draft.begin(PLAIN, board.width, board.height);
        for (int i = 0; i < board.height; i++) {
            for (int j = 0; j < board.width; j++) {
                if (board.hasCell(i, j)) {
                    draft.addCell(j, i);
                }
            }
        }
        return keepDraft(to);
    }

    public int without(int b, int i, int j, int to) {
        if (!isBoardNumber(b) || !isBoardNumber(to)) {
            return BAD;
        }
        Board board = boardAt(b);
        if (board == null) {
            return refused(NOTHING);
        }
        if (!board.hasPlace(i, j)) {
            return refused(BEYOND);
        }
        if (board.height == 1 || board.width == 1) {
            return refused(SIZE);
        }
        int ahead = (1 << j) - 1;
        draft.begin(PLAIN, board.height - 1, board.width - 1);
        for (int k = 0; k < draft.height; k++) {
            int cells = board.cells[k < i ? k : k + 1];
            draft.cells[k] = (cells & ahead) | ((cells >> 1) & ~ahead);
        }
        return keepDraft(to);
    }

    public int join(int b, int c, int to) {
        if (!isBoardNumber(b) || !isBoardNumber(c) || !isBoardNumber(to)) {
            return BAD;
        }
        Board first = boardAt(b);
        Board second = boardAt(c);
        if (first == null || second == null) {
            return refused(NOTHING);
        }
        int height = first.height + second.height;
        int width = first.width + second.width;
        if (height > SIDE || width > SIDE) {
            return refused(SIZE);
        }
        draft.begin(PLAIN, height, width);
        for (int i = 0; i < height; i++) {
            draft.cells[i] = i < first.height
                ? first.cells[i]
                : second.cells[i - first.height] << first.width;
        }
        return keepDraft(to);
    }

    // ---- 2 numbers

    public int towers(int b, int k) {
        if (!isBoardNumber(b) || !isWithin(k, 0, PLACES)) {
            return BAD;
        }
        Board board = boardAt(b);
        if (board == null) {
            return refused(NOTHING);
        }
        numbers.findFor(board);
        latestWays = numbers.at(k);
        return 1;
    }

    public int hits(int b, int k) {
        if (!isBoardNumber(b) || !isWithin(k, 0, SIDE)) {
            return BAD;
        }
        Board board = boardAt(b);
        if (board == null) {
            return refused(NOTHING);
        }
        numbers.findFor(board);
        latestWays = numbers.ordersThatHit(k, board.side());
        return 1;
    }

    public int meanHits(int b) {
        if (!isBoardNumber(b)) {
            return BAD;
        }
        Board board = boardAt(b);
        if (board == null) {
            return refused(NOTHING);
        }
        // Each cell is hit by one in n of all orders.
        tellFraction(board.cellCount(), board.side());
        return 1;
    }

    public int alike(int b, int c) {
        if (!isBoardNumber(b) || !isBoardNumber(c)) {
            return BAD;
        }
        Board first = boardAt(b);
        Board second = boardAt(c);
        if (first == null || second == null) {
            return refused(NOTHING);
        }
        numbers.findFor(first);
        otherNumbers.findFor(second);
        return numbers.isSameAs(otherNumbers) ? 1 : 0;
    }

    public int stairsLike(int b, int to) {
        if (!isBoardNumber(b) || !isRowNumber(to)) {
            return BAD;
        }
        Board board = boardAt(b);
        if (board == null) {
            return refused(NOTHING);
        }
        int n = board.side();
        int found = 0;
        numbers.findFor(board);
        lengths.beginWith(n);
        for (int step = 0; step < Lengths.MOST_STAIRS; step++) {
            if (lengths.haveCells(numbers.at(1))) {
                otherNumbers.findForStairs(lengths);
                if (numbers.isSameAs(otherNumbers)) {
                    if (found == 0) {
                        lengths.writeTo(rows[to]);
                    }
                    found++;
                }
            }
            if (!lengths.goOn()) {
                break;
            }
        }
        return found;
    }

    public int sum(int b, int x) {
        if (!isBoardNumber(b) || !isWithin(x, -MOST_X, MOST_X)) {
            return BAD;
        }
        Board board = boardAt(b);
        if (board == null) {
            return refused(NOTHING);
        }
        numbers.findFor(board);
        latestWays = numbers.fallingSum(x, board.side());
        return 1;
    }

    public int root(int b, int i) {
        if (!isBoardNumber(b)) {
            return BAD;
        }
        Board board = boardAt(b);
        if (board == null) {
            return refused(NOTHING);
        }
        if (board.kind != STAIRS || board.width > board.height) {
            return refused(UNLIKE);
        }
        if (!isWithin(i, 0, board.height - 1)) {
            return refused(BEYOND);
        }
        latestAsked = i - Integer.bitCount(board.cells[i]);
        return 1;
    }

    public int spread(int b, int k, int m) {
        if (!isBoardNumber(b) || !isWithin(k, 0, PLACES) || !isWithin(m, 0, PLACES)) {
            return BAD;
        }
        Board board = boardAt(b);
        if (board == null) {
            return refused(NOTHING);
        }
        freeCells.findFor(board);
        latestWays = freeCells.standsThatLeave(k, m);
        return 1;
    }

    public int stand(int b, int k, int p, int to) {
        if (!isBoardNumber(b) || !isWithin(k, 0, PLACES) || p < 0 || !isRowNumber(to)) {
            return BAD;
        }
        Board board = boardAt(b);
        if (board == null) {
            return refused(NOTHING);
        }
        order.prepare(board, k);
        if (p >= order.all()) {
            return refused(BEYOND);
        }
        order.writeTo(rows[to], board, p);
        return 1;
    }

    public int rank(int b, int r) {
        if (!isBoardNumber(b) || !isRowNumber(r)) {
            return BAD;
        }
        Board board = boardAt(b);
        Row row = rowAt(r);
        if (board == null || row == null) {
            return refused(NOTHING);
        }
        int fault = board.faultOfStand(row);
        if (fault != 0) {
            return refused(fault);
        }
        order.prepare(board, row.towerCount());
        return order.numberOf(row, board);
    }

    public int next(int b, int r) {
        if (!isBoardNumber(b) || !isRowNumber(r)) {
            return BAD;
        }
        Board board = boardAt(b);
        Row row = rowAt(r);
        if (board == null || row == null) {
            return refused(NOTHING);
        }
        int fault = board.faultOfStand(row);
        if (fault != 0) {
            return refused(fault);
        }
        order.prepare(board, row.towerCount());
        int following = order.numberOf(row, board) + 1;
        if (following >= order.all()) {
            return NONE;
        }
        order.writeTo(row, board, following);
        return 1;
    }

    // ---- 3 the most

    public int most(int b) {
        if (!isBoardNumber(b)) {
            return BAD;
        }
        Board board = boardAt(b);
        if (board == null) {
            return refused(NOTHING);
        }
        numbers.findFor(board);
        return numbers.greatest();
    }

    public int cover(int b) {
        if (!isBoardNumber(b)) {
            return BAD;
        }
        Board board = boardAt(b);
        if (board == null) {
            return refused(NOTHING);
        }
        int fewest = board.height + 1;
        for (int chosen = 0; chosen < 1 << board.height; chosen++) {
            // With these rows, the columns of all other cells are needed, and no more.
            int columns = board.columnsOutside(chosen);
            int lines = Integer.bitCount(chosen) + Integer.bitCount(columns);
            if (lines < fewest) {
                fewest = lines;
                latestAsked = chosen * SETS + columns;
            }
        }
        return fewest;
    }

    public int need(int b, int i, int j) {
        if (!isBoardNumber(b)) {
            return BAD;
        }
        Board board = boardAt(b);
        if (board == null) {
            return refused(NOTHING);
        }
        if (!board.hasCell(i, j)) {
            return refused(BEYOND);
        }
        numbers.findFor(board);
        int greatest = numbers.greatest();
        int all = numbers.at(greatest);
        draft.takeUntouched(board, i, j);
        otherNumbers.findFor(draft);
        int with = otherNumbers.at(greatest - 1);
        if (with == 0) {
            return 0;
        }
        return with == all ? 2 : 1;
    }

    public int least(int b, int r) {
        if (!isBoardNumber(b) || !isRowNumber(r)) {
            return BAD;
        }
        Board board = boardAt(b);
        Row weights = rowAt(r);
        if (board == null || weights == null) {
            return refused(NOTHING);
        }
        int fault = board.faultOfWeights(weights);
        if (fault != 0) {
            return refused(fault);
        }
        numbers.findFor(board);
        lightest.findFor(board, weights, numbers.greatest());
        latestAsked = lightest.leastSum;
        latestWays = lightest.howOften;
        return 1;
    }

    public int lack(int b, int r, int i, int j) {
        if (!isBoardNumber(b) || !isRowNumber(r)) {
            return BAD;
        }
        Board board = boardAt(b);
        Row weights = rowAt(r);
        if (board == null || weights == null) {
            return refused(NOTHING);
        }
        int fault = board.faultOfWeights(weights);
        if (fault != 0) {
            return refused(fault);
        }
        if (!board.hasCell(i, j)) {
            return refused(BEYOND);
        }
        return lackOf(board, weights, i, j);
    }

    // ---- 4 arrows, slants

    public int rounds(int b, int k, int c) {
        if (!isBoardNumber(b) || !isWithin(k, 0, SIDE) || !isWithin(c, 0, SIDE)) {
            return BAD;
        }
        Board board = boardAt(b);
        if (board == null) {
            return refused(NOTHING);
        }
        if (!board.isSquare()) {
            return refused(UNLIKE);
        }
        arrows.findFor(board, 1);
        latestWays = arrows.standsOf(board.height - k, c);
        return 1;
    }

    public int longRings(int b, int m) {
        if (!isBoardNumber(b) || !isWithin(m, 1, SIDE)) {
            return BAD;
        }
        Board board = boardAt(b);
        if (board == null) {
            return refused(NOTHING);
        }
        if (!board.isSquare()) {
            return refused(UNLIKE);
        }
        arrows.findFor(board, m);
        latestWays = 0;
        for (int c = 0; c <= SIDE; c++) {
            latestWays += arrows.standsOf(0, c);
        }
        return 1;
    }

    public int ringOf(int b, int r, int c) {
        if (!isBoardNumber(b) || !isRowNumber(r)) {
            return BAD;
        }
        Board board = boardAt(b);
        Row row = rowAt(r);
        if (board == null || row == null) {
            return refused(NOTHING);
        }
        int fault = board.faultOfStand(row);
        if (fault != 0) {
            return refused(fault);
        }
        if (!board.isSquare()) {
            return refused(UNLIKE);
        }
        int seen = 0;
        for (int i = 0; i < row.size; i++) {
            int ring = row.ringWithLeast(i);
            if (ring != 0) {
                if (seen == c) {
                    latestAsked = ring;
                    return Integer.bitCount(ring);
                }
                seen++;
            }
        }
        return NONE;
    }

    public int slants(int b, int k) {
        if (!isBoardNumber(b) || !isWithin(k, 0, MOST_SLANTS)) {
            return BAD;
        }
        Board board = boardAt(b);
        if (board == null) {
            return refused(NOTHING);
        }
        // A piece on an even diagonal never meets one on an odd diagonal.
        draft.takeDiagonals(board, 0);
        numbers.findFor(draft);
        draft.takeDiagonals(board, 1);
        otherNumbers.findFor(draft);
        latestWays = 0;
        for (int even = 0; even <= k; even++) {
            latestWays += (long) numbers.at(even) * otherNumbers.at(k - even);
        }
        return 1;
    }

    // ---- 5 what is told

    public long ways() {
        return latestWays;
    }

    public int asked() {
        return latestAsked;
    }

    public long upper() {
        return latestUpper;
    }

    public long lower() {
        return latestLower;
    }

    public int count(int what) {
        switch (what) {
            case 0:
                return rowCount();
            case 1:
                return boardCount(PLAIN);
            case 2:
                return boardCount(STAIRS);
            case 3:
                return boardCount(RING);
            case 4:
                return allCellCount();
            default:
                return BAD;
        }
    }

    public int finding() {
        return latestFinding;
    }

    public int findings(int f) {
        return isWithin(f, NOTHING, SIZE) ? findingCounts[f] : BAD;
    }

    public long digest() {
        long h = 17;
        for (int b = 0; b < BOARDS; b++) {
            h = boards[b].digestOnto(h);
        }
        for (int r = 0; r < ROWS; r++) {
            h = rows[r].digestOnto(h);
        }
        return h;
    }

    // ---- what the calls share

    private static boolean isWithin(int x, int least, int most) {
        return x >= least && x <= most;
    }

    private static boolean isRowNumber(int r) {
        return isWithin(r, 0, ROWS - 1);
    }

    private static boolean isBoardNumber(int b) {
        return isWithin(b, 0, BOARDS - 1);
    }

    /** The ROW of this number, null if it is missing. */
    private Row rowAt(int r) {
        Row row = isRowNumber(r) ? rows[r] : null;
        return row != null && row.isThere() ? row : null;
    }

    /** The BOARD of this number, null if it is missing. */
    private Board boardAt(int b) {
        Board board = isBoardNumber(b) ? boards[b] : null;
        return board != null && board.isThere() ? board : null;
    }

    private int refused(int finding) {
        latestFinding = finding;
        findingCounts[finding]++;
        return FINDING;
    }

    /** Boards are made in the draft first, since they may come to the place of one they are made of. */
    private int keepDraft(int to) {
        boards[to].takeAll(draft);
        return draft.cellCount();
    }

    private void tellFraction(int above, int below) {
        int shared = 1;
        for (int d = 2; d <= below; d++) {
            if (above % d == 0 && below % d == 0) {
                shared = d;
            }
        }
        latestUpper = above / shared;
        latestLower = below / shared;
    }

    private int lackOf(Board board, Row weights, int i, int j) {
        numbers.findFor(board);
        int greatest = numbers.greatest();
        lightest.findFor(board, weights, greatest);
        int leastOfAll = lightest.leastSum;
        draft.takeUntouched(board, i, j);
        lightest.findFor(draft, weights, greatest - 1);
        if (lightest.howOften == 0) {
            return NONE;
        }
        return lightest.leastSum + weights.at(i * board.width + j) - leastOfAll;
    }

    private int rowCount() {
        int there = 0;
        for (int r = 0; r < ROWS; r++) {
            if (rows[r].isThere()) {
                there++;
            }
        }
        return there;
    }

    private int boardCount(int kind) {
        int there = 0;
        for (int b = 0; b < BOARDS; b++) {
            if (boards[b].isThere() && boards[b].isOfKind(kind)) {
                there++;
            }
        }
        return there;
    }

    private int allCellCount() {
        int cells = 0;
        for (int b = 0; b < BOARDS; b++) {
            if (boards[b].isThere()) {
                cells += boards[b].cellCount();
            }
        }
        return cells;
    }

    /** A ROW; it keeps its places when it is missing, so that none are made later. */
    private static final class Row {
        int size = MISSING;
        final int[] places = new int[PLACES];

        boolean isThere() {
            return size != MISSING;
        }

        void begin(int n) {
            size = n;
            Arrays.fill(places, 0);
        }

        boolean hasPlace(int i) {
            return i >= 0 && i < size;
        }

        boolean hasSpan(int i, int n) {
            return i >= 0 && i <= size && n >= 0 && n <= size - i;
        }

        int at(int i) {
            return hasPlace(i) ? places[i] : 0;
        }

        long total() {
            long total = 0;
            for (int i = 0; i < size; i++) {
                total += places[i];
            }
            return total;
        }

        boolean isAllWithin(int least, int most) {
            for (int i = 0; i < size; i++) {
                if (!isWithin(places[i], least, most)) {
                    return false;
                }
            }
            return true;
        }

        boolean isRising() {
            for (int i = 1; i < size; i++) {
                if (places[i] < places[i - 1]) {
                    return false;
                }
            }
            return true;
        }

        /** Of a ROW that tells a STAND. */
        int towerCount() {
            int towers = 0;
            for (int i = 0; i < size; i++) {
                if (places[i] != NONE) {
                    towers++;
                }
            }
            return towers;
        }

        /** Of a ROW that tells a STAND: the places of the RING whose least place is this one, 0 if there is none. */
        int ringWithLeast(int start) {
            int ring = 0;
            int place = start;
            // Towers share no column, so that a way back can lead to the start alone.
            for (int step = 0; step < size; step++) {
                if (!hasPlace(place) || place < start) {
                    return 0;
                }
                ring |= 1 << place;
                place = places[place];
                if (place == start) {
                    return ring;
                }
            }
            return 0;
        }

        long digestOnto(long before) {
            long h = 31 * before + size;
            for (int i = 0; i < size; i++) {
                h = 31 * h + places[i];
            }
            return h;
        }
    }

    /** A BOARD; it keeps its cells when it is missing, so that none are made later. */
    private static final class Board {
        int kind = MISSING;
        int height = 1;
        int width = 1;
        final int[] cells = new int[SIDE];

        boolean isThere() {
            return kind != MISSING;
        }

        void begin(int newKind, int newHeight, int newWidth) {
            kind = newKind;
            height = newHeight;
            width = newWidth;
            Arrays.fill(cells, 0);
        }

        void takeAll(Board from) {
            begin(from.kind, from.height, from.width);
            System.arraycopy(from.cells, 0, cells, 0, SIDE);
        }

        /** The cells of a BOARD that a tower at (i, j) does not take, at the places that they have there. */
        void takeUntouched(Board from, int i, int j) {
            begin(PLAIN, from.height, from.width);
            for (int k = 0; k < height; k++) {
                cells[k] = k == i ? 0 : from.cells[k] & ~(1 << j);
            }
        }

        /** The cells of a BOARD whose i and j are together even (0) or odd (1), with diagonals as rows and columns. */
        void takeDiagonals(Board from, int odd) {
            begin(PLAIN, SIDE, SIDE);
            for (int i = 0; i < from.height; i++) {
                for (int j = 0; j < from.width; j++) {
                    if (from.hasCell(i, j) && (i + j) % 2 == odd) {
                        addCell((i + j) / 2, (i - j + SIDE) / 2);
                    }
                }
            }
        }

        boolean isOfKind(int asked) {
            return asked == PLAIN || asked == kind || (asked == RING && kind == PAIRED);
        }

        boolean isSquare() {
            return height == width;
        }

        int side() {
            return Math.max(height, width);
        }

        int allColumns() {
            return (1 << width) - 1;
        }

        boolean hasPlace(int i, int j) {
            return i >= 0 && i < height && j >= 0 && j < width;
        }

        boolean hasCell(int i, int j) {
            return hasPlace(i, j) && (cells[i] & (1 << j)) != 0;
        }

        void addCell(int i, int j) {
            if (hasPlace(i, j)) {
                cells[i] |= 1 << j;
            }
        }

        int cellCount() {
            int all = 0;
            for (int i = 0; i < height; i++) {
                all += Integer.bitCount(cells[i]);
            }
            return all;
        }

        /** Of STAIRS: the lengths only rise, so that a new one is unlike the one before it. */
        int unlikeLengths() {
            int unlike = 0;
            int before = 0;
            for (int i = 0; i < height; i++) {
                if (cells[i] != before) {
                    unlike++;
                    before = cells[i];
                }
            }
            return unlike;
        }

        int columnsOutside(int chosenRows) {
            int columns = 0;
            for (int i = 0; i < height; i++) {
                if ((chosenRows & (1 << i)) == 0) {
                    columns |= cells[i];
                }
            }
            return columns;
        }

        /** The FINDING of a ROW that tells no STAND here, 0 if it tells one. */
        int faultOfStand(Row row) {
            if (row.size != height) {
                return SIZE;
            }
            int taken = 0;
            for (int i = 0; i < height; i++) {
                int j = row.at(i);
                if (j != NONE) {
                    if (!hasCell(i, j) || (taken & (1 << j)) != 0) {
                        return UNLIKE;
                    }
                    taken |= 1 << j;
                }
            }
            return 0;
        }

        /** The FINDING of a ROW that is no WEIGHTS here, 0 if it is. */
        int faultOfWeights(Row row) {
            if (row.size != height * width) {
                return SIZE;
            }
            return row.isAllWithin(-MOST_WEIGHT, MOST_WEIGHT) ? 0 : UNLIKE;
        }

        long digestOnto(long before) {
            long h = 31 * before + kind;
            if (!isThere()) {
                return h;
            }
            h = 31 * h + height;
            h = 31 * h + width;
            for (int i = 0; i < height; i++) {
                h = 31 * h + cells[i];
            }
            return h;
        }
    }

    /** How many STANDS of each k there are. */
    private static final class Numbers {
        private final int[] bySet = new int[SETS];
        private final int[] bySize = new int[SIDE + 1];

        void findFor(Board board) {
            Arrays.fill(bySet, 0);
            bySet[0] = 1;
            for (int i = 0; i < board.height; i++) {
                addRow(board.cells[i]);
            }
            Arrays.fill(bySize, 0);
            for (int set = 0; set < SETS; set++) {
                bySize[Integer.bitCount(set)] += bySet[set];
            }
        }

        private void addRow(int cells) {
            // Greater sets first: a set is left as the rows above made it until its own turn has come.
            for (int set = SETS - 1; set >= 0; set--) {
                int open = bySet[set] == 0 ? 0 : cells & ~set;
                for (int j = 0; j < SIDE; j++) {
                    if ((open & (1 << j)) != 0) {
                        bySet[set | (1 << j)] += bySet[set];
                    }
                }
            }
        }

        /** Towers of the rows above, being in shorter rows, each take one place of a row of STAIRS. */
        void findForStairs(Lengths stairs) {
            Arrays.fill(bySize, 0);
            bySize[0] = 1;
            for (int i = 0; i < stairs.n; i++) {
                for (int k = SIDE; k > 0; k--) {
                    bySize[k] += bySize[k - 1] * (stairs.values[i] - (k - 1));
                }
            }
        }

        int at(int k) {
            return isWithin(k, 0, SIDE) ? bySize[k] : 0;
        }

        int greatest() {
            int k = SIDE;
            while (k > 0 && bySize[k] == 0) {
                k--;
            }
            return k;
        }

        boolean isSameAs(Numbers that) {
            for (int k = 0; k <= SIDE; k++) {
                if (bySize[k] != that.bySize[k]) {
                    return false;
                }
            }
            return true;
        }

        /** An order that hits more than k is met in STANDS of j more than once: the signs take it out again. */
        long ordersThatHit(int k, int n) {
            long orders = 0;
            long sign = 1;
            long choices = 1;
            for (int j = k; j <= n; j++) {
                orders += sign * choices * at(j) * factorial(n - j);
                sign = -sign;
                choices = choices * (j + 1) / (j + 1 - k);
            }
            return orders;
        }

        private static long factorial(int n) {
            long product = 1;
            for (int i = 2; i <= n; i++) {
                product *= i;
            }
            return product;
        }

        long fallingSum(int x, int n) {
            long sum = 0;
            long falling = 1;
            for (int k = 0; k <= n; k++) {
                sum += at(n - k) * falling;
                falling *= x - k;
            }
            return sum;
        }
    }

    /** The l(i) of all STAIRS of n by n, one after the other. */
    private static final class Lengths {
        /** The ways to choose 6 of 12. */
        static final int MOST_STAIRS = 924;

        int n = 1;
        final int[] values = new int[SIDE];

        void beginWith(int newN) {
            n = newN;
            Arrays.fill(values, 0);
        }

        boolean goOn() {
            int i = n - 1;
            while (i >= 0 && values[i] == n) {
                i--;
            }
            if (i < 0) {
                return false;
            }
            int risen = values[i] + 1;
            for (int k = i; k < n; k++) {
                values[k] = risen;
            }
            return true;
        }

        /** N(1) is cheap to know: most STAIRS need no more to be told apart. */
        boolean haveCells(int cells) {
            int all = 0;
            for (int i = 0; i < n; i++) {
                all += values[i];
            }
            return all == cells;
        }

        void writeTo(Row row) {
            row.begin(n);
            for (int i = 0; i < n; i++) {
                row.places[i] = values[i];
            }
        }
    }

    /** STANDS of k in their ORDER. */
    private static final class Order {
        /** For each row and set of columns taken above it: in how many ways it goes on to a STAND of k. */
        private final int[] endings = new int[(SIDE + 1) * SETS];

        void prepare(Board board, int k) {
            for (int set = 0; set < SETS; set++) {
                endings[board.height * SETS + set] = Integer.bitCount(set) == k ? 1 : 0;
            }
            for (int i = board.height - 1; i >= 0; i--) {
                for (int set = 0; set < SETS; set++) {
                    endings[i * SETS + set] = countAhead(board, i, set, SIDE) + endings[(i + 1) * SETS + set];
                }
            }
        }

        /** How many endings have a tower of row i in a column less than this one. */
        private int countAhead(Board board, int i, int taken, int column) {
            int open = board.cells[i] & ~taken;
            int ahead = 0;
            for (int j = 0; j < column; j++) {
                if ((open & (1 << j)) != 0) {
                    ahead += endings[(i + 1) * SETS + (taken | (1 << j))];
                }
            }
            return ahead;
        }

        int all() {
            return endings[0];
        }

        int numberOf(Row row, Board board) {
            int number = 0;
            int taken = 0;
            for (int i = 0; i < board.height; i++) {
                int j = row.at(i);
                if (isWithin(j, 0, SIDE - 1)) {
                    number += countAhead(board, i, taken, j);
                    taken |= 1 << j;
                } else {
                    number += countAhead(board, i, taken, SIDE);
                }
            }
            return number;
        }

        void writeTo(Row row, Board board, int number) {
            int left = number;
            int taken = 0;
            row.begin(board.height);
            for (int i = 0; i < board.height; i++) {
                int j = columnOf(board, i, taken, left);
                left -= countAhead(board, i, taken, j);
                row.places[i] = j < SIDE ? j : NONE;
                taken |= j < SIDE ? 1 << j : 0;
            }
        }

        /** SIDE: the row has no tower. */
        private int columnOf(Board board, int i, int taken, int left) {
            for (int j = 0; j < SIDE; j++) {
                if (left < countAhead(board, i, taken, j + 1)) {
                    return j;
                }
            }
            return SIDE;
        }
    }

    /** How many STANDS leave so many cells FREE. */
    private static final class FreeCells {
        private static final int SPAN = PLACES + 1;
        /** For each set of columns taken: by the number of cells FREE. */
        private final int[] ways = new int[SETS * SPAN];

        void findFor(Board board) {
            Arrays.fill(ways, 0);
            ways[0] = 1;
            for (int i = 0; i < board.height; i++) {
                // Greater ones first: what this row gives goes only to those that had their turn.
                for (int set = SETS - 1; set >= 0; set--) {
                    for (int free = PLACES; free >= 0; free--) {
                        addRow(board.cells[i] & ~set, set, free);
                    }
                }
            }
        }

        private void addRow(int open, int set, int free) {
            int before = ways[set * SPAN + free];
            if (before == 0) {
                return;
            }
            ways[set * SPAN + free] = 0;
            give(set, free + Integer.bitCount(open), before);
            for (int j = 0; j < SIDE; j++) {
                if ((open & (1 << j)) != 0) {
                    int left = open & ((1 << j) - 1);
                    give(set | (1 << j), free + Integer.bitCount(left), before);
                }
            }
        }

        private void give(int set, int free, int more) {
            if (free < SPAN) {
                ways[set * SPAN + free] += more;
            }
        }

        int standsThatLeave(int k, int free) {
            int stands = 0;
            for (int set = 0; set < SETS; set++) {
                if (Integer.bitCount(set) == k) {
                    stands += ways[set * SPAN + free];
                }
            }
            return stands;
        }
    }

    /** The least sum of WEIGHTS of STANDS of k, and how many STANDS have it (0: there is no STAND of k). */
    private static final class Lightest {
        private final int[] sums = new int[SETS];
        private final int[] often = new int[SETS];
        int leastSum = 0;
        int howOften = 0;

        void findFor(Board board, Row weights, int k) {
            Arrays.fill(often, 0);
            sums[0] = 0;
            often[0] = 1;
            for (int i = 0; i < board.height; i++) {
                addRow(board, weights, i);
            }
            leastSum = 0;
            howOften = 0;
            for (int set = 0; set < SETS; set++) {
                if (Integer.bitCount(set) == k && often[set] > 0) {
                    choose(set);
                }
            }
        }

        private void addRow(Board board, Row weights, int i) {
            // Greater sets first: a set is left as the rows above made it until its own turn has come.
            for (int set = SETS - 1; set >= 0; set--) {
                int open = often[set] == 0 ? 0 : board.cells[i] & ~set;
                for (int j = 0; j < SIDE; j++) {
                    if ((open & (1 << j)) != 0) {
                        offer(set | (1 << j), sums[set] + weights.at(i * board.width + j), often[set]);
                    }
                }
            }
        }

        private void offer(int set, int sum, int times) {
            if (often[set] == 0 || sum < sums[set]) {
                sums[set] = sum;
                often[set] = times;
            } else if (sum == sums[set]) {
                often[set] += times;
            }
        }

        private void choose(int set) {
            if (howOften == 0 || sums[set] < leastSum) {
                leastSum = sums[set];
                howOften = often[set];
            } else if (sums[set] == leastSum) {
                howOften += often[set];
            }
        }
    }

    /** STANDS of an n by n BOARD as PATHS and RINGS. */
    private static final class Arrows {
        private static final int SPAN = SIDE + 1;
        /** For each set and place of it: walks through all of the set that end there. */
        private final int[] walks = new int[SETS * SIDE];
        private final int[] paths = new int[SETS];
        private final int[] rings = new int[SETS];
        /** For each set, number of PATHS and number of RINGS: in how many ways the set falls into them. */
        private final int[] ways = new int[SETS * SPAN * SPAN];
        private int full = 0;

        /** RINGS of fewer places than the shortest are left out. */
        void findFor(Board board, int shortest) {
            full = (1 << board.height) - 1;
            findPaths(board);
            findRings(board, shortest);
            Arrays.fill(ways, 0);
            ways[0] = 1;
            for (int set = 1; set <= full; set++) {
                fallApart(set);
            }
        }

        private void findPaths(Board board) {
            for (int set = 1; set <= full; set++) {
                paths[set] = 0;
                for (int end = 0; end < board.height; end++) {
                    walks[set * SIDE + end] = walksTo(board, set, end);
                    paths[set] += walks[set * SIDE + end];
                }
            }
        }

        private void findRings(Board board, int shortest) {
            for (int set = 1; set <= full; set++) {
                int start = Integer.numberOfTrailingZeros(set);
                rings[set] = 0;
                for (int end = 0; end < board.height; end++) {
                    // Each ring is counted once, as a walk that begins at its least place.
                    boolean isBack = end == start && Integer.bitCount(set) > 1;
                    walks[set * SIDE + end] = isBack ? 0 : walksTo(board, set, end);
                    if (board.hasCell(end, start) && Integer.bitCount(set) >= shortest) {
                        rings[set] += walks[set * SIDE + end];
                    }
                }
            }
        }

        private int walksTo(Board board, int set, int end) {
            int before = set & ~(1 << end);
            if (before == set) {
                return 0;
            }
            if (before == 0) {
                return 1;
            }
            int all = 0;
            for (int place = 0; place < board.height; place++) {
                if (board.hasCell(place, end)) {
                    all += walks[before * SIDE + place];
                }
            }
            return all;
        }

        private void fallApart(int set) {
            int least = Integer.lowestOneBit(set);
            for (int part = 1; part <= set; part++) {
                // The part with the least place goes first, so that each way is met once.
                if ((part & ~set) == 0 && (part & least) != 0) {
                    addPart(set, part);
                }
            }
        }

        private void addPart(int set, int part) {
            int rest = (set & ~part) * SPAN * SPAN;
            int target = set * SPAN * SPAN;
            for (int p = 0; p < SIDE; p++) {
                for (int c = 0; c < SIDE - p; c++) {
                    int before = ways[rest + p * SPAN + c];
                    ways[target + (p + 1) * SPAN + c] += paths[part] * before;
                    ways[target + p * SPAN + c + 1] += rings[part] * before;
                }
            }
        }

        int standsOf(int pathCount, int ringCount) {
            if (!isWithin(pathCount, 0, SIDE) || !isWithin(ringCount, 0, SIDE)) {
                return 0;
            }
            return ways[(full * SPAN + pathCount) * SPAN + ringCount];
        }
    }
}
