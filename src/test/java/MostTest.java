/** Promises 31 to 35: the most towers, covers, weights. */
public final class MostTest {
    private static final int NOTHING = 1, BEYOND = 2, UNLIKE = 3, SIZE = 5;
    private static final int NONE = TowerBoards.NONE;
    private static final Due due = new Due();

    public static void main(String[] args) {
        most();
        cover();
        need();
        least();
        lack();
        due.end();
    }

    private static TowerBoards fresh(String part) {
        due.part(part);
        return new TowerBoards();
    }

    private static void mostIs(TowerBoards t, int want, int v, int... cells) {
        Make.board(t, 0, v, cells);
        due.leaves(t, "most of board " + java.util.Arrays.toString(cells), want, () -> t.most(0));
    }

    private static void most() {
        TowerBoards t = fresh("promise 31");
        mostIs(t, 0, 1, 0);
        mostIs(t, 1, 1, 1);
        mostIs(t, 1, 2, 2, 2, 2);
        mostIs(t, 1, 6, 63);
        mostIs(t, 2, 6, 63, 63);
        mostIs(t, 2, 3, 7, 1, 1);
        mostIs(t, 3, 4, 1, 15, 15, 1);
        mostIs(t, 6, 6, 32, 16, 8, 4, 2, 1);
        mostIs(t, 6, 6, 63, 63, 63, 63, 63, 63);
        due.badBoards(t, "most", t::most);
        due.finds(t, NOTHING, "of a missing board", () -> t.most(9));
    }

    private static void coverIs(TowerBoards t, int lines, int rows, int columns, int v, int... cells) {
        Make.board(t, 0, v, cells);
        String what = "cover of board " + java.util.Arrays.toString(cells);
        due.is(what, t.cover(0), lines);
        due.is(what + ", asked()", t.asked(), rows * 64 + columns);
    }

    private static void cover() {
        TowerBoards t = fresh("promise 32");
        coverIs(t, 1, 1, 0, 3, 7);
        coverIs(t, 0, 0, 0, 1, 0);
        coverIs(t, 2, 1, 1, 3, 7, 1, 1);
        coverIs(t, 2, 0, 3, 2, 3, 3);
        coverIs(t, 2, 0, 3, 2, 1, 2);
        coverIs(t, 1, 0, 1, 1, 1, 1, 1);
        coverIs(t, 1, 0, 1, 3, 1, 0, 0);
        coverIs(t, 3, 6, 1, 4, 1, 15, 15, 1);
        coverIs(t, 6, 0, 63, 6, 63, 63, 63, 63, 63, 63);
        coverIs(t, 2, 33, 0, 6, 63, 0, 0, 0, 0, 63);
        coverIs(t, 2, 2, 4, 3, 4, 3, 4);
        due.badBoards(t, "cover", t::cover);
        due.finds(t, NOTHING, "of a missing board", () -> t.cover(9));
    }

    private static void needsAre(TowerBoards t, int v, int[] cells, int[][] want) {
        Make.board(t, 0, v, cells);
        for (int i = 0; i < cells.length; i++) {
            for (int j = 0; j < v; j++) {
                int row = i;
                int column = j;
                String what = "need(0, " + i + ", " + j + ") of board " + java.util.Arrays.toString(cells);
                if (want[i][j] == NONE) {
                    due.finds(t, BEYOND, what, () -> t.need(0, row, column));
                } else {
                    due.leaves(t, what, want[i][j], () -> t.need(0, row, column));
                }
            }
        }
    }

    private static void need() {
        TowerBoards t = fresh("promise 33");
        needsAre(t, 3, new int[] {7, 1, 1}, new int[][] {{0, 1, 1}, {1, NONE, NONE}, {1, NONE, NONE}});
        needsAre(t, 2, new int[] {3, 1}, new int[][] {{0, 2}, {2, NONE}});
        needsAre(t, 1, new int[] {1}, new int[][] {{2}});
        needsAre(t, 2, new int[] {3, 0}, new int[][] {{1, 1}, {NONE, NONE}});
        needsAre(t, 3, new int[] {2, 7, 4}, new int[][] {{NONE, 2, NONE}, {2, 0, 0}, {NONE, NONE, 2}});
        Make.board(t, 1, 6, 63, 63, 63, 63, 63, 1);
        Make.board(t, 2, 2, 3);
        due.leaves(t, "in all, after another board was made", 2, () -> t.need(1, 5, 0));
        due.leaves(t, "in none, after another board was made", 0, () -> t.need(1, 0, 0));
        due.leaves(t, "in some, after another board was made", 1, () -> t.need(1, 4, 5));
        for (int x : new int[] {-1, 3, 32, Integer.MIN_VALUE, Integer.MAX_VALUE}) {
            due.finds(t, BEYOND, "row " + x, () -> t.need(0, x, 0));
            due.finds(t, BEYOND, "column " + x, () -> t.need(0, 1, x));
        }
        due.badBoards(t, "need", b -> t.need(b, -1, 0));
        due.finds(t, NOTHING, "of a missing board", () -> t.need(9, -1, 0));
    }

    private static void leastIs(TowerBoards t, int sum, int times, int... weights) {
        Make.row(t, 0, weights);
        String what = "least by " + java.util.Arrays.toString(weights);
        due.is(what, t.least(0, 0), 1);
        due.is(what + ", asked()", t.asked(), sum);
        due.is(what + ", ways()", t.ways(), times);
    }

    private static void least() {
        TowerBoards t = fresh("promise 34");
        t.ring(0, 2, 3);
        leastIs(t, 5, 2, 1, 2, 3, 4);
        leastIs(t, 2, 1, 0, -5, 7, 7);
        leastIs(t, -2000, 1, -1000, 1000, 1000, -1000);
        leastIs(t, 2000, 2, 1000, 1000, 1000, 1000);
        t.ring(0, 6, 63);
        leastIs(t, 0, 720, new int[36]);
        Make.board(t, 0, 3, 7, 1, 1);
        leastIs(t, 3, 2, -9, 1, 2, 2, -99, -99, 2, -99, -99);
        Make.board(t, 0, 2, 3, 0);
        leastIs(t, -4, 1, 3, -4, -8, -8);
        leastIs(t, 6, 2, 6, 6, -8, -8);
        Make.board(t, 0, 2, 0, 0);
        leastIs(t, 0, 1, 5, 5, 5, 5);
        faultsOfWeights(t, t::least);
    }

    private static void faultsOfWeights(TowerBoards t, PerBoardAndRow call) {
        Make.board(t, 8, 2, 1, 0, 2);
        due.badBoards(t, "board", b -> call.of(b, 6));
        due.badRows(t, "row", r -> call.of(9, r));
        t.row(1, 6);
        due.finds(t, NOTHING, "a missing board", () -> call.of(9, 1));
        due.finds(t, NOTHING, "a missing row", () -> call.of(8, 6));
        for (int size : new int[] {0, 2, 3, 5, 7, 36}) {
            t.row(1, size);
            if (size > 0) {
                t.lay(1, 0, 1001);
            }
            due.finds(t, SIZE, "a row of " + size, () -> call.of(8, 1));
        }
        for (int weight : new int[] {-1001, 1001, Integer.MIN_VALUE, Integer.MAX_VALUE}) {
            for (int i = 0; i < 6; i++) {
                t.row(1, 6);
                t.lay(1, i, weight);
                due.finds(t, UNLIKE, "weight " + weight + " at " + i, () -> call.of(8, 1));
            }
        }
    }

    private static void lackIs(TowerBoards t, int i, int j, int want) {
        due.leaves(t, "lack(0, 0, " + i + ", " + j + ")", want, () -> t.lack(0, 0, i, j));
    }

    private static void lack() {
        TowerBoards t = fresh("promise 35");
        t.ring(0, 2, 3);
        Make.row(t, 0, 0, -5, 7, 7);
        lackIs(t, 0, 0, 5);
        lackIs(t, 0, 1, 0);
        lackIs(t, 1, 0, 0);
        lackIs(t, 1, 1, 5);
        Make.row(t, 0, -1000, 1000, 1000, -1000);
        lackIs(t, 0, 1, 4000);
        Make.board(t, 0, 3, 7, 1, 1);
        Make.row(t, 0, -9, 1, 2, 2, -99, -99, 4, -99, -99);
        lackIs(t, 0, 0, NONE);
        lackIs(t, 0, 1, 0);
        lackIs(t, 0, 2, 1);
        lackIs(t, 1, 0, 0);
        lackIs(t, 2, 0, 2);
        due.finds(t, BEYOND, "no cell", () -> t.lack(0, 0, 1, 1));
        t.ring(1, 6, 63);
        Make.row(t, 1, new int[36]);
        t.lay(1, 35, 7);
        t.lay(1, 0, -7);
        Make.board(t, 2, 1, 1);
        due.leaves(t, "the last cell, after another board was made", 7, () -> t.lack(1, 1, 5, 5));
        due.leaves(t, "beside the least, after another board was made", 7, () -> t.lack(1, 1, 0, 5));
        for (int x : new int[] {-1, 3, 32, Integer.MIN_VALUE, Integer.MAX_VALUE}) {
            due.finds(t, BEYOND, "row " + x, () -> t.lack(0, 0, x, 0));
            due.finds(t, BEYOND, "column " + x, () -> t.lack(0, 0, 0, x));
        }
        faultsOfWeights(t, (b, r) -> t.lack(b, r, 0, 0));
        faultsOfWeights(t, (b, r) -> t.lack(b, r, -1, 9));
    }

    /** A call with a BOARD and a ROW. */
    interface PerBoardAndRow {
        int of(int b, int r);
    }
}
