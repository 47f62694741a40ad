import java.math.BigInteger;
import java.util.ArrayList;
import java.util.Arrays;
import java.util.List;

/**
 * The document once more, in its plainest form: every STAND, order, cover and choice is listed and looked at.
 * It shares nothing with the class, so that the two can be held against each other.
 */
public final class PlainModel {
    private static final int BAD = -1, FINDING = -3, NONE = -9;
    private static final int NOTHING = 1, BEYOND = 2, UNLIKE = 3, NOUGHT = 4, SIZE = 5;

    /** A BOARD, with what it was made of. */
    private static final class Cells {
        final int kind;
        final boolean[][] is;
        int differences;

        Cells(int kind, int h, int v) {
            this.kind = kind;
            is = new boolean[h][v];
        }

        int h() {
            return is.length;
        }

        int v() {
            return is[0].length;
        }

        int n() {
            return Math.max(h(), v());
        }

        boolean has(int i, int j) {
            return i >= 0 && j >= 0 && i < h() && j < v() && is[i][j];
        }

        int length(int i) {
            int l = 0;
            for (boolean cell : is[i]) {
                l += cell ? 1 : 0;
            }
            return l;
        }

        int all() {
            int all = 0;
            for (int i = 0; i < h(); i++) {
                all += length(i);
            }
            return all;
        }
    }

    private final int[][] rows = new int[8][];
    private final Cells[] boards = new Cells[12];
    private final int[] found = new int[6];
    private long ways = 0;
    private int asked = 0;
    private long upper = 0;
    private long lower = 1;
    private int finding = 0;

    private int find(int f) {
        finding = f;
        found[f]++;
        return FINDING;
    }

    private static boolean noRow(int r) {
        return r < 0 || r > 7;
    }

    private static boolean noBoard(int b) {
        return b < 0 || b > 11;
    }

    private static boolean out(int x, int least, int most) {
        return x < least || x > most;
    }

    // ---- rows

    public int row(int r, int n) {
        if (noRow(r) || n > 36) return BAD;
        if (n < 0) return find(SIZE);
        rows[r] = new int[n];
        return n;
    }

    public int lay(int r, int i, int v) {
        if (noRow(r)) return BAD;
        if (rows[r] == null) return find(NOTHING);
        if (out(i, 0, rows[r].length - 1)) return find(BEYOND);
        asked = rows[r][i];
        rows[r][i] = v;
        return 1;
    }

    public int tear(int r) {
        if (noRow(r)) return BAD;
        if (rows[r] == null) return find(NOTHING);
        rows[r] = null;
        return 1;
    }

    public int copy(int r, int i, int to, int j, int n) {
        if (noRow(r) || noRow(to)) return BAD;
        if (n < 0) return find(SIZE);
        if (rows[r] == null || rows[to] == null) return find(NOTHING);
        if (i < 0 || j < 0 || (long) i + n > rows[r].length || (long) j + n > rows[to].length) return find(BEYOND);
        int[] taken = rows[r].clone();
        for (int k = 0; k < n; k++) {
            rows[to][j + k] = taken[i + k];
        }
        return 1;
    }

    public int mean(int r) {
        if (noRow(r)) return BAD;
        if (rows[r] == null) return find(NOTHING);
        if (rows[r].length == 0) return find(NOUGHT);
        BigInteger all = BigInteger.ZERO;
        for (int x : rows[r]) {
            all = all.add(BigInteger.valueOf(x));
        }
        asked = all.divide(BigInteger.valueOf(rows[r].length)).intValueExact();
        return 1;
    }

    // ---- boards

    public int board(int b, int v, int r) {
        if (noBoard(b) || out(v, 1, 6) || noRow(r)) return BAD;
        if (rows[r] == null) return find(NOTHING);
        if (out(rows[r].length, 1, 6)) return find(SIZE);
        Cells made = new Cells(0, rows[r].length, v);
        for (int i = 0; i < made.h(); i++) {
            for (int bit = 0; bit < 32; bit++) {
                if ((rows[r][i] >>> bit) % 2 != 0) {
                    if (bit >= v) return find(UNLIKE);
                    made.is[i][bit] = true;
                }
            }
        }
        boards[b] = made;
        return made.all();
    }

    public int stairs(int b, int v, int r) {
        if (noBoard(b) || out(v, 1, 6) || noRow(r)) return BAD;
        if (rows[r] == null) return find(NOTHING);
        if (out(rows[r].length, 1, 6)) return find(SIZE);
        int before = 0;
        for (int l : rows[r]) {
            if (l < before || l > v) return find(UNLIKE);
            before = l;
        }
        boards[b] = stairsOf(rows[r], v);
        return boards[b].all();
    }

    private static Cells stairsOf(int[] lengths, int v) {
        Cells made = new Cells(1, lengths.length, v);
        for (int i = 0; i < made.h(); i++) {
            for (int j = 0; j < lengths[i]; j++) {
                made.is[i][j] = true;
            }
        }
        return made;
    }

    public int ring(int b, int n, int set) {
        if (noBoard(b) || out(n, 1, 6) || set < 0 || set >= Math.pow(2, n)) return BAD;
        Cells made = new Cells(n >= 2 && set == 3 ? 3 : 2, n, n);
        made.differences = set;
        for (int i = 0; i < n; i++) {
            for (int j = 0; j < n; j++) {
                made.is[i][j] = (set >> Math.floorMod(j - i, n)) % 2 == 1;
            }
        }
        boards[b] = made;
        return made.kind;
    }

    public int drop(int b) {
        if (noBoard(b)) return BAD;
        if (boards[b] == null) return find(NOTHING);
        boards[b] = null;
        return 1;
    }

    public int told(int b, int what) {
        if (noBoard(b) || out(what, 0, 3)) return BAD;
        Cells c = boards[b];
        if (c == null) return find(NOTHING);
        asked = new int[] {c.kind, c.h(), c.v(), c.all()}[what];
        return 1;
    }

    private static boolean isKind(Cells c, int kind) {
        return kind == 0 || kind == c.kind || kind == 2 && c.kind == 3;
    }

    public int is(int b, int kind) {
        if (noBoard(b) || out(kind, 0, 3)) return BAD;
        if (boards[b] == null) return find(NOTHING);
        return isKind(boards[b], kind) ? 1 : 0;
    }

    public int mark(int b, int kind) {
        if (noBoard(b) || out(kind, 1, 3)) return BAD;
        Cells c = boards[b];
        if (c == null) return find(NOTHING);
        if (!isKind(c, kind)) return find(UNLIKE);
        if (kind == 2) return c.differences;
        if (kind == 3) return c.h();
        int unlike = 0;
        for (int l = 1; l <= 6; l++) {
            boolean seen = false;
            for (int i = 0; i < c.h(); i++) {
                seen |= c.length(i) == l;
            }
            unlike += seen ? 1 : 0;
        }
        return unlike;
    }

    public int cell(int b, int i, int j) {
        if (noBoard(b)) return BAD;
        Cells c = boards[b];
        if (c == null) return find(NOTHING);
        if (out(i, 0, c.h() - 1) || out(j, 0, c.v() - 1)) return find(BEYOND);
        return c.is[i][j] ? 1 : 0;
    }

    public int set(int b, int i, int j, boolean is) {
        if (noBoard(b)) return BAD;
        Cells c = boards[b];
        if (c == null) return find(NOTHING);
        if (c.kind != 0) return find(UNLIKE);
        if (out(i, 0, c.h() - 1) || out(j, 0, c.v() - 1)) return find(BEYOND);
        int was = c.is[i][j] ? 1 : 0;
        c.is[i][j] = is;
        return was;
    }

    public int other(int b, int to) {
        if (noBoard(b) || noBoard(to)) return BAD;
        Cells c = boards[b];
        if (c == null) return find(NOTHING);
        Cells made = new Cells(0, c.h(), c.v());
        for (int i = 0; i < c.h(); i++) {
            for (int j = 0; j < c.v(); j++) {
                made.is[i][j] = !c.is[i][j];
            }
        }
        boards[to] = made;
        return made.all();
    }

    public int turn(int b, int to) {
        if (noBoard(b) || noBoard(to)) return BAD;
        Cells c = boards[b];
        if (c == null) return find(NOTHING);
        Cells made = new Cells(0, c.v(), c.h());
        for (int i = 0; i < c.h(); i++) {
            for (int j = 0; j < c.v(); j++) {
                made.is[j][i] = c.is[i][j];
            }
        }
        boards[to] = made;
        return made.all();
    }

    public int without(int b, int i, int j, int to) {
        if (noBoard(b) || noBoard(to)) return BAD;
        Cells c = boards[b];
        if (c == null) return find(NOTHING);
        if (out(i, 0, c.h() - 1) || out(j, 0, c.v() - 1)) return find(BEYOND);
        if (c.h() == 1 || c.v() == 1) return find(SIZE);
        Cells made = new Cells(0, c.h() - 1, c.v() - 1);
        for (int k = 0; k < c.h(); k++) {
            for (int l = 0; l < c.v(); l++) {
                if (k != i && l != j) {
                    made.is[k > i ? k - 1 : k][l > j ? l - 1 : l] = c.is[k][l];
                }
            }
        }
        boards[to] = made;
        return made.all();
    }

    public int join(int b, int c, int to) {
        if (noBoard(b) || noBoard(c) || noBoard(to)) return BAD;
        Cells first = boards[b];
        Cells second = boards[c];
        if (first == null || second == null) return find(NOTHING);
        if (first.h() + second.h() > 6 || first.v() + second.v() > 6) return find(SIZE);
        Cells made = new Cells(0, first.h() + second.h(), first.v() + second.v());
        for (int i = 0; i < made.h(); i++) {
            for (int j = 0; j < made.v(); j++) {
                made.is[i][j] = first.has(i, j) || second.has(i - first.h(), j - first.v());
            }
        }
        boards[to] = made;
        return made.all();
    }

    // ---- all STANDS, in ORDER

    private static List<int[]> stands(Cells c) {
        List<int[]> all = new ArrayList<>();
        int[] columns = new int[c.h()];
        list(c, 0, columns, all);
        return all;
    }

    private static void list(Cells c, int i, int[] columns, List<int[]> all) {
        if (i == c.h()) {
            all.add(columns.clone());
            return;
        }
        for (int j = 0; j < c.v(); j++) {
            boolean isFree = c.is[i][j];
            for (int above = 0; above < i; above++) {
                isFree &= columns[above] != j;
            }
            if (isFree) {
                columns[i] = j;
                list(c, i + 1, columns, all);
            }
        }
        columns[i] = NONE;
        list(c, i + 1, columns, all);
    }

    private static int towersIn(int[] stand) {
        int towers = 0;
        for (int j : stand) {
            towers += j == NONE ? 0 : 1;
        }
        return towers;
    }

    private static List<int[]> stands(Cells c, int k) {
        List<int[]> of = new ArrayList<>();
        for (int[] stand : stands(c)) {
            if (towersIn(stand) == k) {
                of.add(stand);
            }
        }
        return of;
    }

    private static long[] numbers(Cells c) {
        long[] n = new long[37];
        for (int[] stand : stands(c)) {
            n[towersIn(stand)]++;
        }
        return n;
    }

    private static int mostOf(Cells c) {
        int most = 0;
        for (int[] stand : stands(c)) {
            most = Math.max(most, towersIn(stand));
        }
        return most;
    }

    // ---- numbers

    public int towers(int b, int k) {
        if (noBoard(b) || out(k, 0, 36)) return BAD;
        if (boards[b] == null) return find(NOTHING);
        ways = stands(boards[b], k).size();
        return 1;
    }

    /** How many CELLS each order of all rows hits. */
    private static List<Integer> hitsOfOrders(Cells c) {
        List<Integer> hits = new ArrayList<>();
        order(c, 0, new boolean[c.n()], 0, hits);
        return hits;
    }

    private static void order(Cells c, int i, boolean[] taken, int hit, List<Integer> hits) {
        if (i == c.n()) {
            hits.add(hit);
            return;
        }
        for (int j = 0; j < c.n(); j++) {
            if (!taken[j]) {
                taken[j] = true;
                order(c, i + 1, taken, hit + (c.has(i, j) ? 1 : 0), hits);
                taken[j] = false;
            }
        }
    }

    public int hits(int b, int k) {
        if (noBoard(b) || out(k, 0, 6)) return BAD;
        if (boards[b] == null) return find(NOTHING);
        ways = 0;
        for (int hit : hitsOfOrders(boards[b])) {
            ways += hit == k ? 1 : 0;
        }
        return 1;
    }

    public int meanHits(int b) {
        if (noBoard(b)) return BAD;
        if (boards[b] == null) return find(NOTHING);
        List<Integer> hits = hitsOfOrders(boards[b]);
        long all = 0;
        for (int hit : hits) {
            all += hit;
        }
        long shared = BigInteger.valueOf(all).gcd(BigInteger.valueOf(hits.size())).longValueExact();
        upper = all / shared;
        lower = hits.size() / shared;
        return 1;
    }

    public int alike(int b, int c) {
        if (noBoard(b) || noBoard(c)) return BAD;
        if (boards[b] == null || boards[c] == null) return find(NOTHING);
        return Arrays.equals(numbers(boards[b]), numbers(boards[c])) ? 1 : 0;
    }

    /** All STAIRS of n by n with their numbers, kept since they never change. */
    private static final List<List<int[]>> LENGTHS = new ArrayList<>();
    private static final List<List<long[]>> NUMBERS = new ArrayList<>();

    private static void listStairs(int n) {
        while (LENGTHS.size() <= n) {
            List<int[]> lengths = new ArrayList<>();
            List<long[]> numbers = new ArrayList<>();
            int size = LENGTHS.size();
            if (size > 0) {
                listLengths(size, 0, new int[size], lengths);
                for (int[] one : lengths) {
                    numbers.add(numbers(stairsOf(one, size)));
                }
            }
            LENGTHS.add(lengths);
            NUMBERS.add(numbers);
        }
    }

    private static void listLengths(int n, int i, int[] lengths, List<int[]> all) {
        if (i == n) {
            all.add(lengths.clone());
            return;
        }
        for (int l = i == 0 ? 0 : lengths[i - 1]; l <= n; l++) {
            lengths[i] = l;
            listLengths(n, i + 1, lengths, all);
        }
    }

    public int stairsLike(int b, int to) {
        if (noBoard(b) || noRow(to)) return BAD;
        if (boards[b] == null) return find(NOTHING);
        int n = boards[b].n();
        listStairs(n);
        long[] due = numbers(boards[b]);
        int like = 0;
        for (int s = 0; s < LENGTHS.get(n).size(); s++) {
            if (Arrays.equals(due, NUMBERS.get(n).get(s))) {
                if (like == 0) {
                    rows[to] = LENGTHS.get(n).get(s).clone();
                }
                like++;
            }
        }
        return like;
    }

    private static long falling(int x, int k) {
        long product = 1;
        for (int i = 0; i < k; i++) {
            product *= x - i;
        }
        return product;
    }

    public int sum(int b, int x) {
        if (noBoard(b) || out(x, -50, 50)) return BAD;
        if (boards[b] == null) return find(NOTHING);
        int n = boards[b].n();
        long[] numbers = numbers(boards[b]);
        ways = 0;
        for (int k = 0; k <= n; k++) {
            ways += numbers[n - k] * falling(x, k);
        }
        return 1;
    }

    public int root(int b, int i) {
        if (noBoard(b)) return BAD;
        Cells c = boards[b];
        if (c == null) return find(NOTHING);
        if (c.kind != 1 || c.v() > c.h()) return find(UNLIKE);
        if (out(i, 0, c.h() - 1)) return find(BEYOND);
        asked = i - c.length(i);
        return 1;
    }

    private static int free(Cells c, int[] stand) {
        int free = 0;
        for (int i = 0; i < c.h(); i++) {
            for (int j = 0; j < c.v(); j++) {
                boolean isFree = c.is[i][j];
                for (int row = 0; row < c.h(); row++) {
                    if (stand[row] != NONE) {
                        isFree &= !(row == i && stand[row] <= j) && !(stand[row] == j && row <= i);
                    }
                }
                free += isFree ? 1 : 0;
            }
        }
        return free;
    }

    public int spread(int b, int k, int m) {
        if (noBoard(b) || out(k, 0, 36) || out(m, 0, 36)) return BAD;
        if (boards[b] == null) return find(NOTHING);
        ways = 0;
        for (int[] stand : stands(boards[b], k)) {
            ways += free(boards[b], stand) == m ? 1 : 0;
        }
        return 1;
    }

    public int stand(int b, int k, int p, int to) {
        if (noBoard(b) || out(k, 0, 36) || p < 0 || noRow(to)) return BAD;
        if (boards[b] == null) return find(NOTHING);
        List<int[]> of = stands(boards[b], k);
        if (p >= of.size()) return find(BEYOND);
        rows[to] = of.get(p);
        return 1;
    }

    /** The place of a STAND among all STANDS, below 0 if it is none. */
    private static int indexOf(List<int[]> stands, int[] row) {
        for (int p = 0; p < stands.size(); p++) {
            if (Arrays.equals(stands.get(p), row)) return p;
        }
        return -1;
    }

    public int rank(int b, int r) {
        if (noBoard(b) || noRow(r)) return BAD;
        if (boards[b] == null || rows[r] == null) return find(NOTHING);
        if (rows[r].length != boards[b].h()) return find(SIZE);
        int p = indexOf(stands(boards[b], towersIn(rows[r])), rows[r]);
        return p < 0 ? find(UNLIKE) : p;
    }

    public int next(int b, int r) {
        if (noBoard(b) || noRow(r)) return BAD;
        if (boards[b] == null || rows[r] == null) return find(NOTHING);
        if (rows[r].length != boards[b].h()) return find(SIZE);
        List<int[]> of = stands(boards[b], towersIn(rows[r]));
        int p = indexOf(of, rows[r]);
        if (p < 0) return find(UNLIKE);
        if (p + 1 == of.size()) return NONE;
        rows[r] = of.get(p + 1);
        return 1;
    }

    // ---- the most

    public int most(int b) {
        if (noBoard(b)) return BAD;
        if (boards[b] == null) return find(NOTHING);
        return mostOf(boards[b]);
    }

    private static boolean covers(Cells c, int lineRows, int lineColumns) {
        for (int i = 0; i < c.h(); i++) {
            for (int j = 0; j < c.v(); j++) {
                if (c.is[i][j] && (lineRows >> i) % 2 == 0 && (lineColumns >> j) % 2 == 0) return false;
            }
        }
        return true;
    }

    public int cover(int b) {
        if (noBoard(b)) return BAD;
        Cells c = boards[b];
        if (c == null) return find(NOTHING);
        for (int lines = 0; ; lines++) {
            for (int lineRows = 0; lineRows < 1 << c.h(); lineRows++) {
                for (int lineColumns = 0; lineColumns < 1 << c.v(); lineColumns++) {
                    if (Integer.bitCount(lineRows) + Integer.bitCount(lineColumns) == lines
                            && covers(c, lineRows, lineColumns)) {
                        asked = lineRows * 64 + lineColumns;
                        return lines;
                    }
                }
            }
        }
    }

    public int need(int b, int i, int j) {
        if (noBoard(b)) return BAD;
        Cells c = boards[b];
        if (c == null) return find(NOTHING);
        if (!c.has(i, j)) return find(BEYOND);
        boolean inAll = true;
        boolean inSome = false;
        for (int[] stand : stands(c, mostOf(c))) {
            inAll &= stand[i] == j;
            inSome |= stand[i] == j;
        }
        return inAll ? 2 : inSome ? 1 : 0;
    }

    private static int weight(Cells c, int[] stand, int[] weights) {
        int sum = 0;
        for (int i = 0; i < c.h(); i++) {
            sum += stand[i] == NONE ? 0 : weights[i * c.v() + stand[i]];
        }
        return sum;
    }

    private int faultOfWeights(int b, int r) {
        if (noBoard(b) || noRow(r)) return BAD;
        if (boards[b] == null || rows[r] == null) return find(NOTHING);
        if (rows[r].length != boards[b].h() * boards[b].v()) return find(SIZE);
        for (int w : rows[r]) {
            if (out(w, -1000, 1000)) return find(UNLIKE);
        }
        return 0;
    }

    public int least(int b, int r) {
        int fault = faultOfWeights(b, r);
        if (fault != 0) return fault;
        Cells c = boards[b];
        int least = Integer.MAX_VALUE;
        List<int[]> greatest = stands(c, mostOf(c));
        for (int[] stand : greatest) {
            least = Math.min(least, weight(c, stand, rows[r]));
        }
        ways = 0;
        for (int[] stand : greatest) {
            ways += weight(c, stand, rows[r]) == least ? 1 : 0;
        }
        asked = least;
        return 1;
    }

    public int lack(int b, int r, int i, int j) {
        int fault = faultOfWeights(b, r);
        if (fault != 0) return fault;
        Cells c = boards[b];
        if (!c.has(i, j)) return find(BEYOND);
        int least = Integer.MAX_VALUE;
        int with = Integer.MAX_VALUE;
        for (int[] stand : stands(c, mostOf(c))) {
            int weight = weight(c, stand, rows[r]);
            least = Math.min(least, weight);
            with = stand[i] == j ? Math.min(with, weight) : with;
        }
        return with == Integer.MAX_VALUE ? NONE : with - least;
    }

    // ---- arrows, slants

    /** The RINGS of a STAND as bits, by their least places. */
    private static List<Integer> rings(int[] stand) {
        List<Integer> rings = new ArrayList<>();
        int seen = 0;
        for (int start = 0; start < stand.length; start++) {
            int bits = 0;
            int at = start;
            while (at != NONE && (bits >> at) % 2 == 0) {
                bits |= 1 << at;
                at = stand[at];
            }
            if (at == start && (seen >> start) % 2 == 0) {
                rings.add(bits);
                seen |= bits;
            }
        }
        return rings;
    }

    public int rounds(int b, int k, int c) {
        if (noBoard(b) || out(k, 0, 6) || out(c, 0, 6)) return BAD;
        if (boards[b] == null) return find(NOTHING);
        if (boards[b].h() != boards[b].v()) return find(UNLIKE);
        ways = 0;
        for (int[] stand : stands(boards[b], k)) {
            ways += rings(stand).size() == c ? 1 : 0;
        }
        return 1;
    }

    public int longRings(int b, int m) {
        if (noBoard(b) || out(m, 1, 6)) return BAD;
        if (boards[b] == null) return find(NOTHING);
        if (boards[b].h() != boards[b].v()) return find(UNLIKE);
        ways = 0;
        for (int[] stand : stands(boards[b], boards[b].h())) {
            boolean isLong = true;
            for (int ring : rings(stand)) {
                isLong &= Integer.bitCount(ring) >= m;
            }
            ways += isLong ? 1 : 0;
        }
        return 1;
    }

    public int ringOf(int b, int r, int c) {
        if (noBoard(b) || noRow(r)) return BAD;
        if (boards[b] == null || rows[r] == null) return find(NOTHING);
        if (rows[r].length != boards[b].h()) return find(SIZE);
        if (boards[b].h() != boards[b].v() || indexOf(stands(boards[b]), rows[r]) < 0) return find(UNLIKE);
        List<Integer> rings = rings(rows[r]);
        if (c < 0 || c >= rings.size()) return NONE;
        asked = rings.get(c);
        return Integer.bitCount(asked);
    }

    private static long chosen(List<int[]> cells, int from, List<int[]> taken, int k) {
        if (taken.size() == k) return 1;
        long all = 0;
        for (int at = from; at < cells.size(); at++) {
            int[] cell = cells.get(at);
            boolean isFree = true;
            for (int[] one : taken) {
                isFree &= one[0] + one[1] != cell[0] + cell[1] && one[0] - one[1] != cell[0] - cell[1];
            }
            if (isFree) {
                taken.add(cell);
                all += chosen(cells, at + 1, taken, k);
                taken.remove(taken.size() - 1);
            }
        }
        return all;
    }

    public int slants(int b, int k) {
        if (noBoard(b) || out(k, 0, 11)) return BAD;
        if (boards[b] == null) return find(NOTHING);
        List<int[]> cells = new ArrayList<>();
        for (int i = 0; i < boards[b].h(); i++) {
            for (int j = 0; j < boards[b].v(); j++) {
                if (boards[b].is[i][j]) {
                    cells.add(new int[] {i, j});
                }
            }
        }
        ways = chosen(cells, 0, new ArrayList<>(), k);
        return 1;
    }

    // ---- what is told

    public long ways() {
        return ways;
    }

    public int asked() {
        return asked;
    }

    public long upper() {
        return upper;
    }

    public long lower() {
        return lower;
    }

    public int count(int what) {
        if (out(what, 0, 4)) return BAD;
        int[] counts = new int[5];
        for (int[] row : rows) {
            counts[0] += row == null ? 0 : 1;
        }
        for (Cells c : boards) {
            if (c != null) {
                counts[1]++;
                counts[2] += c.kind == 1 ? 1 : 0;
                counts[3] += c.kind >= 2 ? 1 : 0;
                counts[4] += c.all();
            }
        }
        return counts[what];
    }

    public int finding() {
        return finding;
    }

    public int findings(int f) {
        return out(f, 1, 5) ? BAD : found[f];
    }

    public long digest() {
        List<Integer> values = new ArrayList<>();
        for (Cells c : boards) {
            values.add(c == null ? -1 : c.kind);
            if (c != null) {
                values.add(c.h());
                values.add(c.v());
                for (boolean[] row : c.is) {
                    int bits = 0;
                    for (int j = 0; j < row.length; j++) {
                        bits += row[j] ? 1 << j : 0;
                    }
                    values.add(bits);
                }
            }
        }
        for (int[] row : rows) {
            values.add(row == null ? -1 : row.length);
            if (row != null) {
                for (int x : row) {
                    values.add(x);
                }
            }
        }
        long h = 17;
        for (int v : values) {
            h = 31 * h + v;
        }
        return h;
    }
}
