import java.util.ArrayList;
import java.util.Arrays;
import java.util.List;
import java.util.Random;

/**
 * What the document's terms say of one another, on every STAIRS and on BOARDS of any size by a fixed seed. No STANDS
 * are listed here: calls are held against one another, so that the greatest BOARDS are looked at, too.
 */
public final class TermsTest {
    private static final int ANY_BOARDS = 600;
    private static final int SIDE = 6;
    private static final Due due = new Due();

    private final int v;
    private final int[] numbers;
    private final boolean isStairs;
    private TowerBoards t;
    private int h;
    private int n;

    private TermsTest(int v, int[] numbers, boolean isStairs) {
        this.v = v;
        this.numbers = numbers;
        this.isStairs = isStairs;
    }

    public static void main(String[] args) {
        for (int h = 1; h <= SIDE; h++) {
            for (int v = 1; v <= SIDE; v++) {
                for (int[] lengths : allStairs(h, v)) {
                    TermsTest stairs = new TermsTest(v, lengths, true);
                    stairs.look();
                    stairs.roots();
                    stairs.spreadRowByRow();
                    stairs.likeThemselves();
                }
            }
        }
        Random random = new Random(11);
        for (int i = 0; i < ANY_BOARDS; i++) {
            TermsTest board = anyBoard(random);
            board.look();
            board.spread();
        }
        due.end();
    }

    private static List<int[]> allStairs(int h, int v) {
        List<int[]> all = new ArrayList<>();
        addStairs(all, new int[h], 0, v);
        return all;
    }

    private static void addStairs(List<int[]> all, int[] lengths, int i, int v) {
        if (i == lengths.length) {
            all.add(lengths.clone());
            return;
        }
        for (int l = i == 0 ? 0 : lengths[i - 1]; l <= v; l++) {
            lengths[i] = l;
            addStairs(all, lengths, i + 1, v);
        }
    }

    private static TermsTest anyBoard(Random random) {
        int h = 1 + random.nextInt(SIDE);
        int v = random.nextBoolean() ? h : 1 + random.nextInt(SIDE);
        int[] cells = new int[h];
        for (int i = 0; i < h; i++) {
            cells[i] = random.nextInt(1 << v);
        }
        return new TermsTest(v, cells, false);
    }

    /** BOARD 0 anew on a new object, since an object is good for 512 calls. */
    private void begin(String words) {
        t = new TowerBoards();
        h = numbers.length;
        n = Math.max(h, v);
        due.part((isStairs ? "stairs " : "board ") + v + " " + Arrays.toString(numbers) + ", " + words);
        if (isStairs) {
            Make.stairs(t, 0, v, numbers);
        } else {
            Make.board(t, 0, v, numbers);
        }
    }

    private long waysAfter(int answer) {
        due.is("it is told", answer, 1);
        return t.ways();
    }

    private long askedAfter(int answer) {
        due.is("it is told", answer, 1);
        return t.asked();
    }

    private void look() {
        towers();
        hits();
        turned();
        order();
        most();
        weights();
        if (h == v) {
            arrows();
        }
        slants();
    }

    private void towers() {
        begin("N(k)");
        int most = t.most(0);
        due.is("N(0)", waysAfter(t.towers(0, 0)), 1);
        due.is("N(1)", waysAfter(t.towers(0, 1)), askedAfter(t.told(0, 3)));
        for (int k = 0; k <= 36; k++) {
            due.isTrue("THE MOST " + most + ", k " + k, waysAfter(t.towers(0, k)) > 0 == k <= most);
        }
        due.is("SUM at 0 is N(n)", waysAfter(t.sum(0, 0)), waysAfter(t.towers(0, n)));
    }

    private void hits() {
        begin("HITS");
        long orders = 0;
        long cells = 0;
        for (int k = 0; k <= 6; k++) {
            long some = waysAfter(t.hits(0, k));
            due.isTrue("fewer than none, k " + k, some >= 0);
            orders += some;
            cells += k * some;
        }
        due.is("all orders", orders, factorial(n));
        t.meanHits(0);
        due.is("the mean", t.upper() * orders, cells * t.lower());
        if (h == v) {
            t.other(0, 1);
            for (int k = 0; k <= n; k++) {
                due.is("hit or not, k " + k, waysAfter(t.hits(1, n - k)), waysAfter(t.hits(0, k)));
            }
        }
    }

    private static long factorial(int n) {
        return n < 2 ? 1 : n * factorial(n - 1);
    }

    private void turned() {
        begin("rows and columns changed");
        t.turn(0, 1);
        due.is("ALIKE", t.alike(0, 1), 1);
        due.is("THE MOST", t.most(1), t.most(0));
        due.is("as many STAIRS", t.stairsLike(1, 1), t.stairsLike(0, 2));
        due.isTrue("the same STAIRS first", Make.rowText(t, 1).equals(Make.rowText(t, 2)));
        t.turn(1, 1);
        due.isTrue("twice", Make.boardText(t, 1).substring(1).equals(Make.boardText(t, 0).substring(1)));
    }

    private void spread() {
        for (int k = 0; k <= 6; k++) {
            begin("SPREAD " + k);
            long stands = 0;
            for (int m = 0; m <= 36; m++) {
                stands += waysAfter(t.spread(0, k, m));
            }
            due.is("all STANDS", stands, waysAfter(t.towers(0, k)));
        }
    }

    private void order() {
        for (int k = 0; k <= h; k++) {
            begin("ORDER of " + k);
            int stands = (int) waysAfter(t.towers(0, k));
            due.is("one too many", t.stand(0, k, stands, 1), TowerBoards.FINDING);
            if (stands > 0) {
                atNumber(k, 0, stands);
                atNumber(k, stands / 2, stands);
                atNumber(k, stands - 1, stands);
            }
        }
    }

    private void atNumber(int k, int p, int stands) {
        due.is("STAND " + p, t.stand(0, k, p, 1), 1);
        due.is("its number", t.rank(0, 1), p);
        due.is("the next one", t.next(0, 1), p + 1 < stands ? 1 : TowerBoards.NONE);
        due.is("its number then", t.rank(0, 1), Math.min(p + 1, stands - 1));
    }

    private void most() {
        begin("THE COVER");
        due.is("as many as THE MOST", t.cover(0), t.most(0));
        int rows = t.asked() / 64;
        int columns = t.asked() % 64;
        due.is("lines", Integer.bitCount(rows) + Integer.bitCount(columns), t.most(0));
        for (int i = 0; i < h; i++) {
            for (int j = 0; j < v; j++) {
                if (t.cell(0, i, j) == 1) {
                    due.isTrue("it holds " + i + ", " + j, ((rows >> i) & 1) + ((columns >> j) & 1) > 0);
                }
            }
        }
    }

    /** With WEIGHTS that are all 1, every STAND of THE MOST has the least sum; a CELL lacks none, or is in no such STAND. */
    private void weights() {
        begin("WEIGHTS");
        int most = t.most(0);
        int[] ones = new int[h * v];
        Arrays.fill(ones, 1);
        Make.row(t, 1, ones);
        due.is("LEAST SUM", askedAfter(t.least(0, 1)), most);
        due.is("in how many", t.ways(), waysAfter(t.towers(0, most)));
        for (int i = 0; i < h; i++) {
            for (int j = 0; j < v; j++) {
                if (t.cell(0, i, j) == 1) {
                    due.is("LACK and need at " + i + ", " + j, t.lack(0, 1, i, j),
                        t.need(0, i, j) == 0 ? TowerBoards.NONE : 0);
                }
            }
        }
    }

    private void arrows() {
        begin("ROUNDS");
        for (int k = 0; k <= 6; k++) {
            long stands = 0;
            for (int c = 0; c <= 6; c++) {
                stands += waysAfter(t.rounds(0, k, c));
            }
            due.is("all STANDS of " + k, stands, waysAfter(t.towers(0, k)));
        }
        due.is("a STAND of n has a RING", waysAfter(t.rounds(0, n, 0)), 0);
        due.is("LONG 1", waysAfter(t.longRings(0, 1)), waysAfter(t.towers(0, n)));
        due.is("LONG n", waysAfter(t.longRings(0, n)), waysAfter(t.rounds(0, n, 1)));
    }

    private void slants() {
        begin("SLANTS");
        due.is("none", waysAfter(t.slants(0, 0)), 1);
        due.is("one", waysAfter(t.slants(0, 1)), askedAfter(t.told(0, 3)));
        t.turn(0, 1);
        for (int k = 2; k <= 11; k++) {
            due.is("rows and columns changed, k " + k, waysAfter(t.slants(1, k)), waysAfter(t.slants(0, k)));
        }
    }

    /** "The SUM there is 0"; as many ROOTS as factors: the SUM is the product of x less each. */
    private void roots() {
        begin("ROOTS");
        if (v > h) {
            due.is("none", t.root(0, 0), TowerBoards.FINDING);
            return;
        }
        int[] roots = new int[h];
        for (int i = 0; i < h; i++) {
            roots[i] = (int) askedAfter(t.root(0, i));
            due.is("SUM at ROOT " + i, waysAfter(t.sum(0, roots[i])), 0);
        }
        for (int x = -50; x <= 50; x++) {
            long product = 1;
            for (int root : roots) {
                product *= x - root;
            }
            due.is("SUM at " + x, waysAfter(t.sum(0, x)), product);
        }
    }

    /**
     * In a row of STAIRS the towers above take places of that row, each in a column of its own: it leaves the others
     * FREE if it has no tower, and those to the left of its tower if it has one.
     */
    private void spreadRowByRow() {
        long[][] want = new long[SIDE + 1][37];
        want[0][0] = 1;
        for (int l : numbers) {
            for (int k = SIDE; k >= 0; k--) {
                long[] row = new long[37];
                addMoved(row, want[k], l - k);
                for (int left = 0; k > 0 && left <= l - k; left++) {
                    addMoved(row, want[k - 1], left);
                }
                want[k] = row;
            }
        }
        for (int k = 0; k <= SIDE; k++) {
            begin("SPREAD " + k + ", row by row");
            for (int m = 0; m <= 36; m++) {
                due.is("m " + m, waysAfter(t.spread(0, k, m)), want[k][m]);
            }
        }
    }

    private static void addMoved(long[] to, long[] from, int by) {
        for (int m = Math.max(0, -by); m < from.length && m + by < to.length; m++) {
            to[m + by] += from[m];
        }
    }

    /** With empty rows ahead of theirs STAIRS come to be n by n, so that there is one at least. */
    private void likeThemselves() {
        begin("STAIRS that are ALIKE");
        due.isTrue("there is one", t.stairsLike(0, 1) > 0);
        due.isTrue("the first one is STAIRS", t.stairs(1, n, 1) >= 0);
        due.is("it is ALIKE", t.alike(0, 1), 1);
    }
}
