/** Promises 20 to 30: numbers of stands, and stands in order. */
public final class NumbersTest {
    private static final int NOTHING = 1, BEYOND = 2, UNLIKE = 3, SIZE = 5;
    private static final int NONE = TowerBoards.NONE;
    private static final Due due = new Due();

    public static void main(String[] args) {
        towers();
        hits();
        meanHits();
        alike();
        stairsLike();
        sum();
        root();
        spread();
        stand();
        rank();
        next();
        due.end();
    }

    private static TowerBoards fresh(String part) {
        due.part(part);
        return new TowerBoards();
    }

    private static void text(String what, String got, String want) {
        due.isTrue(what + " is <" + got + ">, due is <" + want + ">", got.equals(want));
    }

    private static void towersAre(TowerBoards t, int b, long... want) {
        for (int k = 0; k <= 36; k++) {
            due.is("towers(" + b + ", " + k + ")", t.towers(b, k), 1);
            due.is("ways() of " + k, t.ways(), k < want.length ? want[k] : 0);
        }
    }

    private static void towers() {
        TowerBoards t = fresh("promise 20");
        Make.board(t, 0, 3, 7, 7, 7);
        towersAre(t, 0, 1, 9, 18, 6);
        Make.stairs(t, 1, 4, 0, 1, 2, 3);
        towersAre(t, 1, 1, 6, 7, 1);
        t.ring(2, 6, 63);
        towersAre(t, 2, 1, 36, 450, 2400, 5400, 4320, 720);
        Make.board(t, 3, 6, 63, 63);
        towersAre(t, 3, 1, 12, 30);
        t.turn(3, 3);
        towersAre(t, 3, 1, 12, 30);
        t.ring(4, 1, 0);
        towersAre(t, 4, 1);
        due.badBoards(t, "towers", b -> t.towers(b, 0));
        due.badBeyond(t, "k", 0, 36, k -> t.towers(0, k));
        due.badBeyond(t, "k, board missing", 0, 36, k -> t.towers(9, k));
        due.finds(t, NOTHING, "of a missing board", () -> t.towers(9, 0));
    }

    private static void hitsAre(TowerBoards t, int b, long... want) {
        for (int k = 0; k <= 6; k++) {
            due.is("hits(" + b + ", " + k + ")", t.hits(b, k), 1);
            due.is("ways() of " + k, t.ways(), k < want.length ? want[k] : 0);
        }
    }

    private static void hits() {
        TowerBoards t = fresh("promise 21");
        t.ring(0, 4, 1);
        hitsAre(t, 0, 9, 8, 6, 0, 1);
        t.ring(1, 6, 1);
        hitsAre(t, 1, 265, 264, 135, 40, 15, 0, 1);
        t.ring(2, 5, 3);
        hitsAre(t, 2, 13, 30, 40, 20, 15, 2);
        Make.board(t, 3, 3, 7);
        hitsAre(t, 3, 0, 6);
        Make.board(t, 3, 3, 1);
        hitsAre(t, 3, 4, 2);
        t.turn(3, 3);
        hitsAre(t, 3, 4, 2);
        t.ring(4, 6, 63);
        hitsAre(t, 4, 0, 0, 0, 0, 0, 0, 720);
        t.ring(5, 6, 0);
        hitsAre(t, 5, 720);
        Make.stairs(t, 6, 4, 0, 1, 2, 3);
        hitsAre(t, 6, 1, 11, 11, 1);
        due.badBoards(t, "hits", b -> t.hits(b, 0));
        due.badBeyond(t, "k", 0, 6, k -> t.hits(0, k));
        due.badBeyond(t, "k, board missing", 0, 6, k -> t.hits(9, k));
        due.finds(t, NOTHING, "of a missing board", () -> t.hits(9, 0));
    }

    private static void meanIs(TowerBoards t, int b, long upper, long lower) {
        due.is("meanHits(" + b + ")", t.meanHits(b), 1);
        due.is("upper()", t.upper(), upper);
        due.is("lower()", t.lower(), lower);
    }

    private static void meanHits() {
        TowerBoards t = fresh("promise 22");
        Make.board(t, 0, 3, 7, 7, 7);
        meanIs(t, 0, 3, 1);
        Make.board(t, 1, 6, 15, 0, 0);
        meanIs(t, 1, 2, 3);
        t.turn(1, 1);
        meanIs(t, 1, 2, 3);
        Make.board(t, 2, 5, 31, 3);
        meanIs(t, 2, 7, 5);
        Make.board(t, 3, 4, 3, 0);
        meanIs(t, 3, 1, 2);
        t.ring(4, 5, 0);
        meanIs(t, 4, 0, 1);
        due.badBoards(t, "meanHits", t::meanHits);
        due.finds(t, NOTHING, "of a missing board", () -> t.meanHits(9));
    }

    private static void alike() {
        TowerBoards t = fresh("promise 23");
        Make.stairs(t, 0, 2, 1, 1);
        Make.stairs(t, 1, 2, 0, 2);
        Make.board(t, 2, 6, 0, 48, 0);
        Make.board(t, 3, 2, 1, 2);
        t.ring(4, 2, 3);
        t.ring(5, 3, 3);
        Make.board(t, 6, 3, 6, 5, 3);
        int[][] want = {
            {1, 1, 1, 0, 0, 0, 0}, {1, 1, 1, 0, 0, 0, 0}, {1, 1, 1, 0, 0, 0, 0}, {0, 0, 0, 1, 0, 0, 0},
            {0, 0, 0, 0, 1, 0, 0}, {0, 0, 0, 0, 0, 1, 1}, {0, 0, 0, 0, 0, 1, 1}};
        for (int b = 0; b < 7; b++) {
            for (int c = 0; c < 7; c++) {
                int first = b;
                int second = c;
                due.leaves(t, "alike(" + b + ", " + c + ")", want[b][c], () -> t.alike(first, second));
            }
        }
        Make.board(t, 7, 6, 34, 51, 59, 12, 18, 5);
        Make.board(t, 8, 6, 18, 37, 39, 16, 45, 13);
        towersAre(t, 7, 1, 17, 99, 249, 271, 108, 9);
        towersAre(t, 8, 1, 17, 99, 249, 271, 108, 10);
        due.leaves(t, "unlike in N(6) alone", 0, () -> t.alike(7, 8));
        due.badBoards(t, "alike first", b -> t.alike(b, 9));
        due.badBoards(t, "alike second", b -> t.alike(9, b));
        due.finds(t, NOTHING, "the first missing", () -> t.alike(9, 0));
        due.finds(t, NOTHING, "the second missing", () -> t.alike(0, 9));
    }

    private static void stairsLike() {
        TowerBoards t = fresh("promise 24");
        Make.board(t, 0, 2, 3, 0);
        Make.row(t, 1, 8, 8, 8, 8, 8);
        due.is("two cells in a row", t.stairsLike(0, 1), 2);
        text("row 1, anew", Make.rowText(t, 1), "0 2");
        Make.board(t, 0, 2, 1, 2);
        due.leaves(t, "two cells apart", 0, () -> t.stairsLike(0, 1));
        due.leaves(t, "two cells apart, to a missing row", 0, () -> t.stairsLike(0, 5));
        Make.board(t, 0, 3, 6);
        due.is("one row of three places", t.stairsLike(0, 2), 2);
        text("row 2", Make.rowText(t, 2), "0 0 2");
        t.turn(0, 0);
        due.is("one column of three places", t.stairsLike(0, 3), 2);
        text("row 3", Make.rowText(t, 3), "0 0 2");
        t.ring(0, 6, 0);
        due.is("no cells", t.stairsLike(0, 7), 1);
        text("row 7", Make.rowText(t, 7), "0 0 0 0 0 0");
        t.ring(0, 6, 63);
        due.is("all cells", t.stairsLike(0, 7), 1);
        text("row 7", Make.rowText(t, 7), "6 6 6 6 6 6");
        Make.stairs(t, 0, 4, 0, 1, 2, 3);
        due.is("roots all 0", t.stairsLike(0, 7), 1);
        text("row 7", Make.rowText(t, 7), "0 1 2 3");
        Make.stairs(t, 0, 4, 1, 1, 3, 4);
        due.is("roots -1 0 -1 -1 in any order", t.stairsLike(0, 7), 4);
        text("row 7", Make.rowText(t, 7), "0 2 3 4");
        due.badBoards(t, "stairsLike", b -> t.stairsLike(b, 0));
        due.badRows(t, "stairsLike to", r -> t.stairsLike(9, r));
        due.finds(t, NOTHING, "of a missing board", () -> t.stairsLike(9, 0));
    }

    private static void sumIs(TowerBoards t, int b, int x, long want) {
        due.is("sum(" + b + ", " + x + ")", t.sum(b, x), 1);
        due.is("ways()", t.ways(), want);
    }

    private static void sum() {
        TowerBoards t = fresh("promise 25");
        Make.board(t, 0, 2, 3, 3);
        for (int x = -50; x <= 50; x++) {
            sumIs(t, 0, x, (x + 1L) * (x + 2L));
        }
        Make.board(t, 1, 3, 7);
        t.turn(1, 2);
        for (int x = -50; x <= 50; x++) {
            sumIs(t, 1, x, 3L * x * (x - 1) + (long) x * (x - 1) * (x - 2));
            sumIs(t, 2, x, 3L * x * (x - 1) + (long) x * (x - 1) * (x - 2));
        }
        t.ring(3, 6, 0);
        sumIs(t, 3, -50, 50L * 51 * 52 * 53 * 54 * 55);
        sumIs(t, 3, 50, 50L * 49 * 48 * 47 * 46 * 45);
        Make.stairs(t, 4, 4, 1, 1, 3, 4);
        for (int x = -9; x <= 9; x++) {
            sumIs(t, 4, x, (x + 1L) * x * (x + 1) * (x + 1));
        }
        due.badBoards(t, "sum", b -> t.sum(b, 0));
        due.badBeyond(t, "x", -50, 50, x -> t.sum(0, x));
        due.badBeyond(t, "x, board missing", -50, 50, x -> t.sum(9, x));
        due.finds(t, NOTHING, "of a missing board", () -> t.sum(9, 0));
    }

    private static void root() {
        TowerBoards t = fresh("promise 26");
        Make.stairs(t, 0, 4, 0, 1, 4, 4);
        int[] want = {0, 0, -2, -1};
        for (int i = 0; i < 4; i++) {
            due.is("root(0, " + i + ")", t.root(0, i), 1);
            due.is("asked()", t.asked(), want[i]);
            sumIs(t, 0, want[i], 0);
        }
        Make.stairs(t, 1, 1, 0, 0, 0, 1);
        due.is("root(1, 2)", t.root(1, 2), 1);
        due.is("asked()", t.asked(), 2);
        due.is("root(1, 3)", t.root(1, 3), 1);
        due.is("asked()", t.asked(), 2);
        for (int i : new int[] {-1, 4, 6, Integer.MIN_VALUE, Integer.MAX_VALUE}) {
            due.finds(t, BEYOND, "root(0, " + i + ")", () -> t.root(0, i));
        }
        Make.stairs(t, 2, 5, 0, 1, 4, 4);
        due.finds(t, UNLIKE, "V above H", () -> t.root(2, 0));
        due.finds(t, UNLIKE, "V above H, beyond", () -> t.root(2, 9));
        Make.board(t, 3, 2, 1, 3);
        due.finds(t, UNLIKE, "no stairs", () -> t.root(3, 0));
        t.ring(4, 2, 3);
        due.finds(t, UNLIKE, "a ring", () -> t.root(4, 0));
        due.badBoards(t, "root", b -> t.root(b, 0));
        due.finds(t, NOTHING, "of a missing board", () -> t.root(9, -1));
    }

    private static void spreadIs(TowerBoards t, int b, int k, long... want) {
        for (int m = 0; m <= 36; m++) {
            due.is("spread(" + b + ", " + k + ", " + m + ")", t.spread(b, k, m), 1);
            due.is("ways() of " + m, t.ways(), m < want.length ? want[m] : 0);
        }
    }

    private static void spread() {
        TowerBoards t = fresh("promise 27");
        t.ring(0, 2, 3);
        spreadIs(t, 0, 0, 0, 0, 0, 0, 1);
        spreadIs(t, 0, 1, 0, 1, 2, 1);
        spreadIs(t, 0, 2, 1, 1);
        spreadIs(t, 0, 3);
        spreadIs(t, 0, 36);
        Make.board(t, 1, 3, 5);
        spreadIs(t, 1, 0, 0, 0, 1);
        spreadIs(t, 1, 1, 1, 1);
        t.turn(1, 1);
        spreadIs(t, 1, 1, 1, 1);
        t.ring(2, 4, 15);
        spreadIs(t, 2, 4, 1, 3, 5, 6, 5, 3, 1);
        t.ring(3, 6, 63);
        long[] all = new long[37];
        all[36] = 1;
        spreadIs(t, 3, 0, all);
        due.badBoards(t, "spread", b -> t.spread(b, 0, 0));
        due.badBeyond(t, "k", 0, 36, k -> t.spread(0, k, 0));
        due.badBeyond(t, "m", 0, 36, m -> t.spread(0, 0, m));
        due.badBeyond(t, "m, board missing", 0, 36, m -> t.spread(9, 0, m));
        due.finds(t, NOTHING, "of a missing board", () -> t.spread(9, 0, 0));
    }

    private static void standsAre(TowerBoards t, int b, int k, String... want) {
        for (int p = 0; p < want.length; p++) {
            due.is("stand(" + b + ", " + k + ", " + p + ", 3)", t.stand(b, k, p, 3), 1);
            text("stand " + p + " of " + k, Make.rowText(t, 3), want[p]);
        }
        due.finds(t, BEYOND, "stand behind the last of " + k, () -> t.stand(b, k, want.length, 3));
        due.finds(t, BEYOND, "stand far behind the last of " + k, () -> t.stand(b, k, Integer.MAX_VALUE, 3));
    }

    private static void stand() {
        TowerBoards t = fresh("promise 28");
        t.ring(0, 2, 3);
        standsAre(t, 0, 0, "-9 -9");
        standsAre(t, 0, 1, "0 -9", "1 -9", "-9 0", "-9 1");
        standsAre(t, 0, 2, "0 1", "1 0");
        standsAre(t, 0, 3);
        standsAre(t, 0, 36);
        Make.board(t, 1, 3, 6, 0, 3);
        Make.row(t, 3, 7, 7, 7, 7, 7, 7, 7);
        standsAre(t, 1, 2, "1 -9 0", "2 -9 0", "2 -9 1");
        standsAre(t, 1, 1, "1 -9 -9", "2 -9 -9", "-9 -9 0", "-9 -9 1");
        due.finds(t, BEYOND, "to a missing row", () -> t.stand(1, 3, 0, 5));
        due.badBoards(t, "stand", b -> t.stand(b, 1, 0, 3));
        due.badBeyond(t, "k", 0, 36, k -> t.stand(0, k, 0, 3));
        due.badBeyond(t, "k, board missing", 0, 36, k -> t.stand(9, k, 0, 3));
        due.bad(t, "p -1", () -> t.stand(9, 1, -1, 3));
        due.bad(t, "p least", () -> t.stand(0, 1, Integer.MIN_VALUE, 3));
        due.badRows(t, "stand to", r -> t.stand(9, 1, 0, r));
        due.finds(t, NOTHING, "of a missing board", () -> t.stand(9, 1, 0, 3));
    }

    private static void faultsOfStands(TowerBoards t, PerBoardAndRow call) {
        t.ring(8, 2, 3);
        Make.board(t, 9, 4, 6, 15);
        due.badBoards(t, "board", b -> call.of(b, 6));
        due.badRows(t, "row", r -> call.of(11, r));
        Make.row(t, 5, 0, 1);
        due.finds(t, NOTHING, "a missing board", () -> call.of(11, 5));
        due.finds(t, NOTHING, "a missing row", () -> call.of(8, 6));
        for (int size : new int[] {0, 1, 3, 36}) {
            t.row(5, size);
            due.finds(t, SIZE, "a row of " + size, () -> call.of(8, 5));
        }
        int[][] none = {{0, 0}, {3, 3}, {0, 1}, {3, 0}, {4, 0}, {1, 4}, {1, -1}, {NONE - 1, 0}, {NONE + 1, 0},
            {33, 0}, {1, 32}, {Integer.MIN_VALUE, 0}, {1, Integer.MAX_VALUE}, {2, 2}};
        for (int[] columns : none) {
            Make.row(t, 5, columns);
            due.finds(t, UNLIKE, "stand " + columns[0] + " " + columns[1], () -> call.of(9, 5));
        }
    }

    private static void rank() {
        TowerBoards t = fresh("promise 29");
        t.ring(0, 6, 63);
        int[] sizes = {1, 36, 450, 2400, 5400, 4320, 720};
        for (int k = 0; k <= 6; k++) {
            for (int p = 0; p < sizes[k]; p++) {
                t.stand(0, k, p, 0);
                due.is("rank of stand " + p + " of " + k, t.rank(0, 0), p);
            }
        }
        Make.board(t, 1, 3, 6, 0, 3);
        Make.row(t, 1, 2, NONE, 1);
        due.leaves(t, "rank of 2 - 1", 2, () -> t.rank(1, 1));
        Make.row(t, 1, NONE, NONE, 1);
        due.leaves(t, "rank of - - 1", 3, () -> t.rank(1, 1));
        Make.row(t, 1, NONE, NONE, NONE);
        due.leaves(t, "rank of - - -", 0, () -> t.rank(1, 1));
        faultsOfStands(t, t::rank);
    }

    private static void nextIs(TowerBoards t, int b, int r, String want) {
        due.is("next(" + b + ", " + r + ")", t.next(b, r), 1);
        text("row " + r, Make.rowText(t, r), want);
    }

    private static void next() {
        TowerBoards t = fresh("promise 30");
        t.ring(0, 2, 3);
        Make.row(t, 0, 0, NONE);
        nextIs(t, 0, 0, "1 -9");
        nextIs(t, 0, 0, "-9 0");
        nextIs(t, 0, 0, "-9 1");
        due.leaves(t, "next of the last", NONE, () -> t.next(0, 0));
        Make.row(t, 0, 0, 1);
        nextIs(t, 0, 0, "1 0");
        due.leaves(t, "next of the last", NONE, () -> t.next(0, 0));
        Make.row(t, 0, NONE, NONE);
        due.leaves(t, "next of the only one", NONE, () -> t.next(0, 0));
        Make.board(t, 1, 3, 6, 0, 3);
        Make.row(t, 0, 1, NONE, 0);
        nextIs(t, 1, 0, "2 -9 0");
        nextIs(t, 1, 0, "2 -9 1");
        due.leaves(t, "next of the last", NONE, () -> t.next(1, 0));
        faultsOfStands(t, t::next);
    }

    /** A call with a BOARD and a ROW. */
    interface PerBoardAndRow {
        int of(int b, int r);
    }
}
