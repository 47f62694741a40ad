/** Promises 1 to 19: rows and boards. */
public final class RowsAndBoardsTest {
    private static final int NOTHING = 1, BEYOND = 2, UNLIKE = 3, NOUGHT = 4, SIZE = 5;
    private static final Due due = new Due();

    public static void main(String[] args) {
        newObject();
        row();
        lay();
        tear();
        copy();
        mean();
        board();
        stairs();
        ring();
        drop();
        told();
        is();
        mark();
        cell();
        set();
        other();
        turn();
        without();
        join();
        due.end();
    }

    private static TowerBoards fresh(String part) {
        due.part(part);
        return new TowerBoards();
    }

    private static void text(String what, String got, String want) {
        due.isTrue(what + " is <" + got + ">, due is <" + want + ">", got.equals(want));
    }

    private static void newObject() {
        TowerBoards t = fresh("promise 1");
        for (int what = 0; what <= 4; what++) {
            due.is("count(" + what + ")", t.count(what), 0);
        }
        for (int r = 0; r < 8; r++) {
            int number = r;
            due.finds(t, NOTHING, "tear(" + r + ")", () -> t.tear(number));
        }
        for (int b = 0; b < 12; b++) {
            int number = b;
            due.finds(t, NOTHING, "drop(" + b + ")", () -> t.drop(number));
        }
        TowerBoards other = new TowerBoards();
        other.row(0, 3);
        due.is("objects share nothing", t.count(0), 0);
    }

    private static void row() {
        TowerBoards t = fresh("promise 2");
        due.is("row(0, 3)", t.row(0, 3), 3);
        text("row 0", Make.rowText(t, 0), "0 0 0");
        due.is("row(7, 0)", t.row(7, 0), 0);
        due.is("row(7, 36)", t.row(7, 36), 36);
        due.is("lay of the last place", t.lay(7, 35, 4), 1);
        due.is("row(7, 36) anew", t.row(7, 36), 36);
        due.is("lay of the last place", t.lay(7, 35, 4), 1);
        due.is("it was 0 again", t.asked(), 0);
        due.is("row(7, 2) anew", t.row(7, 2), 2);
        text("row 7", Make.rowText(t, 7), "0 0");
        due.badRows(t, "row", r -> t.row(r, 3));
        due.badRows(t, "row below 0", r -> t.row(r, -1));
        due.bad(t, "row(0, 37)", () -> t.row(0, 37));
        due.bad(t, "row(0, greatest)", () -> t.row(0, Integer.MAX_VALUE));
        due.finds(t, SIZE, "row(0, -1)", () -> t.row(0, -1));
        due.finds(t, SIZE, "row(0, least)", () -> t.row(0, Integer.MIN_VALUE));
        text("row 0", Make.rowText(t, 0), "0 0 0");
    }

    private static void lay() {
        TowerBoards t = fresh("promise 3");
        t.row(2, 3);
        due.is("lay(2, 0, 5)", t.lay(2, 0, 5), 1);
        due.is("asked()", t.asked(), 0);
        due.is("lay(2, 0, least)", t.lay(2, 0, Integer.MIN_VALUE), 1);
        due.is("asked()", t.asked(), 5);
        due.is("lay(2, 2, greatest)", t.lay(2, 2, Integer.MAX_VALUE), 1);
        due.is("lay(2, 0, 1)", t.lay(2, 0, 1), 1);
        due.is("asked()", t.asked(), Integer.MIN_VALUE);
        text("row 2", Make.rowText(t, 2), "1 0 2147483647");
        due.badRows(t, "lay", r -> t.lay(r, 0, 1));
        due.finds(t, NOTHING, "lay of a missing row", () -> t.lay(3, 0, 1));
        due.finds(t, NOTHING, "lay beyond a missing row", () -> t.lay(3, 40, 1));
        for (int i : new int[] {-1, 3, 36, Integer.MIN_VALUE, Integer.MAX_VALUE}) {
            due.finds(t, BEYOND, "lay at " + i, () -> t.lay(2, i, 1));
        }
    }

    private static void tear() {
        TowerBoards t = fresh("promise 4");
        Make.row(t, 1, 4, 5);
        t.row(2, 1);
        due.is("tear(1)", t.tear(1), 1);
        due.is("count(0)", t.count(0), 1);
        due.finds(t, NOTHING, "tear(1) again", () -> t.tear(1));
        due.finds(t, NOTHING, "lay(1, 0, 0)", () -> t.lay(1, 0, 0));
        due.is("row(1, 2)", t.row(1, 2), 2);
        text("row 1 made again", Make.rowText(t, 1), "0 0");
        due.badRows(t, "tear", t::tear);
    }

    private static void copy() {
        TowerBoards t = fresh("promise 5");
        Make.row(t, 0, 1, 2, 3, 4, 5);
        Make.row(t, 1, 9, 9, 9);
        due.is("copy(0, 1, 1, 0, 2)", t.copy(0, 1, 1, 0, 2), 1);
        text("row 1", Make.rowText(t, 1), "2 3 9");
        due.is("copy(0, 0, 0, 1, 4)", t.copy(0, 0, 0, 1, 4), 1);
        text("row 0 moved up", Make.rowText(t, 0), "1 1 2 3 4");
        due.is("copy(0, 1, 0, 0, 4)", t.copy(0, 1, 0, 0, 4), 1);
        text("row 0 moved down", Make.rowText(t, 0), "1 2 3 4 4");
        due.leaves(t, "copy of none, behind the last", 1, () -> t.copy(0, 5, 1, 3, 0));
        due.leaves(t, "copy onto itself", 1, () -> t.copy(0, 0, 0, 0, 5));
        due.badRows(t, "copy", r -> t.copy(r, 0, 1, 0, -1));
        due.badRows(t, "copy to", r -> t.copy(0, 0, r, 0, -1));
        due.finds(t, SIZE, "fewer than none", () -> t.copy(0, 0, 1, 0, -1));
        due.finds(t, SIZE, "fewer than none of a missing row", () -> t.copy(5, -1, 6, 0, Integer.MIN_VALUE));
        due.finds(t, NOTHING, "from a missing row", () -> t.copy(5, -1, 1, 0, 1));
        due.finds(t, NOTHING, "to a missing row", () -> t.copy(0, 0, 5, -1, 1));
        int[][] beyond = {
            {0, 0, 4}, {0, 3, 1}, {4, 0, 2}, {5, 0, 1}, {6, 0, 0}, {0, 4, 0}, {-1, 0, 0}, {0, -1, 0}, {-1, 0, 1},
            {0, 0, Integer.MAX_VALUE}, {1, 1, Integer.MAX_VALUE}, {Integer.MAX_VALUE, 0, 1}, {0, Integer.MIN_VALUE, 1}};
        for (int[] p : beyond) {
            due.finds(t, BEYOND, "copy " + p[0] + " " + p[1] + " " + p[2], () -> t.copy(0, p[0], 1, p[1], p[2]));
        }
    }

    private static void mean() {
        TowerBoards t = fresh("promise 6");
        Make.row(t, 0, 3, 4, 4);
        due.is("mean(0)", t.mean(0), 1);
        due.is("cut", t.asked(), 3);
        Make.row(t, 0, -3, -4, -4);
        due.is("mean(0)", t.mean(0), 1);
        due.is("cut towards 0", t.asked(), -3);
        Make.row(t, 0, Integer.MAX_VALUE, Integer.MAX_VALUE, Integer.MAX_VALUE);
        due.is("mean(0)", t.mean(0), 1);
        due.is("of great numbers", t.asked(), Integer.MAX_VALUE);
        Make.row(t, 0, Integer.MIN_VALUE, Integer.MIN_VALUE);
        due.is("mean(0)", t.mean(0), 1);
        due.is("of small numbers", t.asked(), Integer.MIN_VALUE);
        t.row(0, 36);
        t.lay(0, 35, -180);
        due.is("mean(0) of 36", t.mean(0), 1);
        due.is("of 36", t.asked(), -5);
        t.row(1, 0);
        due.finds(t, NOUGHT, "mean of none", () -> t.mean(1));
        due.finds(t, NOTHING, "mean of a missing row", () -> t.mean(2));
        due.badRows(t, "mean", t::mean);
    }

    private static void board() {
        TowerBoards t = fresh("promise 7");
        Make.row(t, 0, 5, 0, 7);
        due.is("board(0, 3, 0)", t.board(0, 3, 0), 5);
        text("board 0", Make.boardText(t, 0), "0 3x3: 5 0 7");
        t.lay(0, 0, 1);
        text("it does not hang on the row", Make.boardText(t, 0), "0 3x3: 5 0 7");
        Make.row(t, 1, 63, 63, 63, 63, 63, 63);
        due.is("board(11, 6, 1)", t.board(11, 6, 1), 36);
        due.is("board(11, 4, 0) anew", t.board(11, 4, 0), 4);
        text("board 11", Make.boardText(t, 11), "0 3x4: 1 0 7");
        Make.row(t, 2, 0);
        due.is("board(1, 1, 2)", t.board(1, 1, 2), 0);
        due.badBoards(t, "board", b -> t.board(b, 3, 0));
        due.badBeyond(t, "columns", 1, 6, v -> t.board(0, v, 0));
        due.badBeyond(t, "columns, row missing", 1, 6, v -> t.board(0, v, 5));
        due.badRows(t, "board", r -> t.board(0, 3, r));
        due.finds(t, NOTHING, "by a missing row", () -> t.board(0, 3, 5));
        t.row(3, 0);
        due.finds(t, SIZE, "no rows", () -> t.board(0, 3, 3));
        Make.row(t, 3, 9, 9, 9, 9, 9, 9, 9);
        due.finds(t, SIZE, "seven rows", () -> t.board(0, 3, 3));
        due.finds(t, UNLIKE, "bits beyond", () -> t.board(0, 2, 0));
        for (int cells : new int[] {8, -1, Integer.MIN_VALUE, Integer.MAX_VALUE}) {
            Make.row(t, 3, 1, cells);
            due.finds(t, UNLIKE, "cells " + cells, () -> t.board(0, 3, 3));
        }
    }

    private static void stairs() {
        TowerBoards t = fresh("promise 8");
        Make.row(t, 0, 0, 2, 2, 3);
        due.is("stairs(0, 3, 0)", t.stairs(0, 3, 0), 7);
        text("board 0", Make.boardText(t, 0), "1 4x3: 0 3 3 7");
        Make.row(t, 1, 6, 6, 6, 6, 6, 6);
        due.is("stairs(11, 6, 1)", t.stairs(11, 6, 1), 36);
        Make.row(t, 2, 0);
        due.is("stairs(0, 1, 2) anew", t.stairs(0, 1, 2), 0);
        text("board 0", Make.boardText(t, 0), "1 1x1: 0");
        due.badBoards(t, "stairs", b -> t.stairs(b, 3, 0));
        due.badBeyond(t, "columns", 1, 6, v -> t.stairs(0, v, 0));
        due.badRows(t, "stairs", r -> t.stairs(0, 3, r));
        due.finds(t, NOTHING, "by a missing row", () -> t.stairs(0, 3, 5));
        t.row(3, 0);
        due.finds(t, SIZE, "no rows", () -> t.stairs(0, 3, 3));
        Make.row(t, 3, 9, 9, 9, 9, 9, 9, 9);
        due.finds(t, SIZE, "seven rows", () -> t.stairs(0, 3, 3));
        due.finds(t, UNLIKE, "longer than V", () -> t.stairs(0, 2, 0));
        for (int[] lengths : new int[][] {{-1, 2}, {1, 4}, {2, 1}, {0, 3, 2}, {Integer.MIN_VALUE}, {Integer.MAX_VALUE}}) {
            Make.row(t, 3, lengths);
            due.finds(t, UNLIKE, "lengths " + lengths[0] + " ..", () -> t.stairs(0, 3, 3));
        }
    }

    private static void ring() {
        TowerBoards t = fresh("promise 9");
        due.is("ring(0, 4, 5)", t.ring(0, 4, 5), 2);
        text("board 0", Make.boardText(t, 0), "2 4x4: 5 10 5 10");
        due.is("ring(0, 5, 18)", t.ring(0, 5, 18), 2);
        text("board 0", Make.boardText(t, 0), "2 5x5: 18 5 10 20 9");
        due.is("ring(1, 4, 3)", t.ring(1, 4, 3), 3);
        text("board 1", Make.boardText(t, 1), "3 4x4: 3 6 12 9");
        due.is("ring(2, 2, 3)", t.ring(2, 2, 3), 3);
        due.is("ring(3, 1, 1)", t.ring(3, 1, 1), 2);
        due.is("ring(4, 1, 0)", t.ring(4, 1, 0), 2);
        due.is("ring(5, 6, 63)", t.ring(5, 6, 63), 2);
        due.is("ring(6, 3, 7)", t.ring(6, 3, 7), 2);
        due.is("ring(7, 6, 3)", t.ring(7, 6, 3), 3);
        due.is("all cells", t.count(4), 10 + 8 + 4 + 1 + 0 + 36 + 9 + 12);
        due.badBoards(t, "ring", b -> t.ring(b, 3, 1));
        due.badBeyond(t, "n", 1, 6, n -> t.ring(0, n, 0));
        for (int n = 1; n <= 6; n++) {
            int size = n;
            due.badBeyond(t, "differences of " + n, 0, (1 << n) - 1, set -> t.ring(0, size, set));
        }
    }

    private static void drop() {
        TowerBoards t = fresh("promise 10");
        t.ring(0, 3, 1);
        t.ring(1, 3, 1);
        due.is("drop(0)", t.drop(0), 1);
        due.is("count(1)", t.count(1), 1);
        due.is("count(4)", t.count(4), 3);
        due.finds(t, NOTHING, "drop(0) again", () -> t.drop(0));
        due.finds(t, NOTHING, "told(0, 0)", () -> t.told(0, 0));
        due.badBoards(t, "drop", t::drop);
    }

    private static void told() {
        TowerBoards t = fresh("promise 11");
        Make.board(t, 0, 5, 17, 3);
        Make.stairs(t, 1, 4, 1, 2, 4);
        t.ring(2, 5, 6);
        t.ring(3, 6, 3);
        int[][] want = {{0, 2, 5, 4}, {1, 3, 4, 7}, {2, 5, 5, 10}, {3, 6, 6, 12}};
        for (int b = 0; b < 4; b++) {
            for (int what = 0; what < 4; what++) {
                due.is("told(" + b + ", " + what + ")", t.told(b, what), 1);
                due.is("asked()", t.asked(), want[b][what]);
            }
        }
        due.badBoards(t, "told", b -> t.told(b, 0));
        due.badBeyond(t, "what", 0, 3, what -> t.told(0, what));
        due.badBeyond(t, "what, board missing", 0, 3, what -> t.told(9, what));
        due.finds(t, NOTHING, "of a missing board", () -> t.told(9, 0));
    }

    private static void is() {
        TowerBoards t = fresh("promise 12");
        Make.board(t, 0, 2, 1, 3);
        Make.stairs(t, 1, 2, 1, 2);
        t.ring(2, 3, 5);
        t.ring(3, 3, 3);
        int[][] want = {{1, 0, 0, 0}, {1, 1, 0, 0}, {1, 0, 1, 0}, {1, 0, 1, 1}};
        for (int b = 0; b < 4; b++) {
            for (int kind = 0; kind < 4; kind++) {
                int number = b;
                int asked = kind;
                due.leaves(t, "is(" + b + ", " + kind + ")", want[b][kind], () -> t.is(number, asked));
            }
        }
        due.badBoards(t, "is", b -> t.is(b, 0));
        due.badBeyond(t, "kind", 0, 3, kind -> t.is(0, kind));
        due.badBeyond(t, "kind, board missing", 0, 3, kind -> t.is(9, kind));
        due.finds(t, NOTHING, "of a missing board", () -> t.is(9, 0));
    }

    private static void mark() {
        TowerBoards t = fresh("promise 13");
        Make.stairs(t, 0, 6, 0, 2, 2, 3, 6, 6);
        due.leaves(t, "stairs", 3, () -> t.mark(0, 1));
        Make.stairs(t, 1, 3, 0, 0);
        due.leaves(t, "stairs of none", 0, () -> t.mark(1, 1));
        Make.stairs(t, 1, 3, 2, 2);
        due.leaves(t, "stairs of one", 1, () -> t.mark(1, 1));
        t.ring(2, 5, 22);
        due.leaves(t, "ring", 22, () -> t.mark(2, 2));
        t.ring(3, 5, 3);
        due.leaves(t, "paired as ring", 3, () -> t.mark(3, 2));
        due.leaves(t, "paired", 5, () -> t.mark(3, 3));
        Make.board(t, 4, 2, 1, 3);
        int[][] unlike = {{0, 2}, {0, 3}, {2, 1}, {2, 3}, {3, 1}, {4, 1}, {4, 2}, {4, 3}};
        for (int[] u : unlike) {
            due.finds(t, UNLIKE, "mark(" + u[0] + ", " + u[1] + ")", () -> t.mark(u[0], u[1]));
        }
        due.badBoards(t, "mark", b -> t.mark(b, 1));
        due.badBeyond(t, "kind", 1, 3, kind -> t.mark(0, kind));
        due.badBeyond(t, "kind, board missing", 1, 3, kind -> t.mark(9, kind));
        due.finds(t, NOTHING, "of a missing board", () -> t.mark(9, 1));
    }

    private static void cell() {
        TowerBoards t = fresh("promise 14");
        Make.board(t, 0, 3, 5, 2);
        int[][] want = {{1, 0, 1}, {0, 1, 0}};
        for (int i = 0; i < 2; i++) {
            for (int j = 0; j < 3; j++) {
                int row = i;
                int column = j;
                due.leaves(t, "cell(0, " + i + ", " + j + ")", want[i][j], () -> t.cell(0, row, column));
            }
        }
        for (int x : new int[] {-1, 3, 32, Integer.MIN_VALUE, Integer.MAX_VALUE}) {
            due.finds(t, BEYOND, "row " + x, () -> t.cell(0, x, 0));
            due.finds(t, BEYOND, "column " + x, () -> t.cell(0, 0, x));
        }
        due.finds(t, BEYOND, "row 2", () -> t.cell(0, 2, 0));
        due.badBoards(t, "cell", b -> t.cell(b, -1, 0));
        due.finds(t, NOTHING, "of a missing board", () -> t.cell(9, -1, 0));
    }

    private static void set() {
        TowerBoards t = fresh("promise 15");
        Make.board(t, 0, 3, 5, 2);
        due.is("a cell becomes one", t.set(0, 0, 0, true), 1);
        due.is("a cell becomes none", t.set(0, 0, 2, false), 1);
        due.is("a place becomes a cell", t.set(0, 1, 2, true), 0);
        due.is("a place becomes none", t.set(0, 1, 0, false), 0);
        text("board 0", Make.boardText(t, 0), "0 2x3: 1 6");
        t.ring(1, 2, 1);
        t.ring(2, 3, 3);
        Make.stairs(t, 3, 2, 1);
        for (int b = 1; b <= 3; b++) {
            int number = b;
            due.finds(t, UNLIKE, "set of board " + b, () -> t.set(number, 0, 0, true));
            due.finds(t, UNLIKE, "set beyond board " + b, () -> t.set(number, 9, 0, false));
        }
        for (int x : new int[] {-1, 3, 32, Integer.MIN_VALUE, Integer.MAX_VALUE}) {
            due.finds(t, BEYOND, "row " + x, () -> t.set(0, x, 0, true));
            due.finds(t, BEYOND, "column " + x, () -> t.set(0, 0, x, true));
        }
        due.badBoards(t, "set", b -> t.set(b, 0, 0, true));
        due.finds(t, NOTHING, "of a missing board", () -> t.set(9, 9, 0, true));
    }

    private static void other() {
        TowerBoards t = fresh("promise 16");
        Make.board(t, 0, 3, 5, 2);
        due.is("other(0, 1)", t.other(0, 1), 3);
        text("board 1", Make.boardText(t, 1), "0 2x3: 2 5");
        text("board 0", Make.boardText(t, 0), "0 2x3: 5 2");
        t.ring(2, 3, 3);
        due.is("onto itself", t.other(2, 2), 3);
        text("board 2", Make.boardText(t, 2), "0 3x3: 4 1 2");
        Make.stairs(t, 3, 6, 0, 6);
        due.is("other(3, 2) anew", t.other(3, 2), 6);
        text("board 2", Make.boardText(t, 2), "0 2x6: 63 0");
        t.ring(3, 6, 1);
        due.is("of six by six", t.other(3, 3), 30);
        text("board 3", Make.boardText(t, 3), "0 6x6: 62 61 59 55 47 31");
        badAndMissing(t, (b, to) -> t.other(b, to));
    }

    private static void turn() {
        TowerBoards t = fresh("promise 17");
        Make.board(t, 0, 3, 5, 2);
        due.is("turn(0, 1)", t.turn(0, 1), 3);
        text("board 1", Make.boardText(t, 1), "0 3x2: 1 2 1");
        due.is("onto itself", t.turn(0, 0), 3);
        text("board 0", Make.boardText(t, 0), "0 3x2: 1 2 1");
        Make.stairs(t, 3, 6, 0, 6);
        due.is("turn(3, 0) anew", t.turn(3, 0), 6);
        text("board 0", Make.boardText(t, 0), "0 6x2: 2 2 2 2 2 2");
        t.ring(4, 1, 1);
        due.is("a ring of 1", t.turn(4, 4), 1);
        text("board 4", Make.boardText(t, 4), "0 1x1: 1");
        t.ring(4, 6, 3);
        due.is("of six by six", t.turn(4, 4), 12);
        text("board 4", Make.boardText(t, 4), "0 6x6: 33 3 6 12 24 48");
        badAndMissing(t, (b, to) -> t.turn(b, to));
    }

    private static void without() {
        TowerBoards t = fresh("promise 18");
        Make.board(t, 0, 3, 5, 2, 7, 6);
        due.is("without(0, 1, 1, 1)", t.without(0, 1, 1, 1), 5);
        text("board 1", Make.boardText(t, 1), "0 3x2: 3 3 2");
        due.is("the first ones", t.without(0, 0, 0, 1), 5);
        text("board 1", Make.boardText(t, 1), "0 3x2: 1 3 3");
        due.is("the last ones, onto itself", t.without(0, 3, 2, 0), 4);
        text("board 0", Make.boardText(t, 0), "0 3x2: 1 2 3");
        t.ring(2, 6, 3);
        due.is("of a paired one", t.without(2, 5, 5, 2), 9);
        text("board 2", Make.boardText(t, 2), "0 5x5: 3 6 12 24 16");
        badAndMissing(t, (b, to) -> t.without(b, -1, 0, to));
        for (int x : new int[] {-1, 3, Integer.MIN_VALUE, Integer.MAX_VALUE}) {
            due.finds(t, BEYOND, "row " + x, () -> t.without(0, x, 0, 1));
            due.finds(t, BEYOND, "column " + x, () -> t.without(0, 0, x, 1));
        }
        due.finds(t, BEYOND, "column 2", () -> t.without(0, 0, 2, 1));
        Make.board(t, 3, 4, 15);
        due.finds(t, SIZE, "one row", () -> t.without(3, 0, 1, 1));
        due.finds(t, BEYOND, "beyond one row", () -> t.without(3, 1, 1, 1));
        t.turn(3, 3);
        due.finds(t, SIZE, "one column", () -> t.without(3, 1, 0, 1));
        due.finds(t, BEYOND, "beyond one column", () -> t.without(3, 0, 1, 1));
    }

    private static void join() {
        TowerBoards t = fresh("promise 19");
        Make.board(t, 0, 3, 5, 2);
        t.ring(1, 2, 1);
        due.is("join(0, 1, 2)", t.join(0, 1, 2), 5);
        text("board 2", Make.boardText(t, 2), "0 4x5: 5 2 8 16");
        due.is("join(1, 0, 1) onto itself", t.join(1, 0, 1), 5);
        text("board 1", Make.boardText(t, 1), "0 4x5: 1 2 20 8");
        due.is("join(0, 0, 0)", t.join(0, 0, 0), 6);
        text("board 0", Make.boardText(t, 0), "0 4x6: 5 2 40 16");
        Make.board(t, 3, 1, 1, 1, 1);
        t.turn(3, 4);
        due.is("6 rows", t.join(3, 3, 5), 6);
        text("board 5", Make.boardText(t, 5), "0 6x2: 1 1 1 2 2 2");
        due.finds(t, SIZE, "7 rows", () -> t.join(0, 3, 5));
        due.finds(t, SIZE, "7 columns", () -> t.join(4, 1, 9));
        t.turn(5, 6);
        due.finds(t, SIZE, "7 columns and 3 rows", () -> t.join(6, 4, 9));
        t.ring(7, 1, 1);
        due.finds(t, SIZE, "7 columns of one place more", () -> t.join(6, 7, 9));
        due.finds(t, SIZE, "7 rows of one place more", () -> t.join(5, 7, 9));
        due.finds(t, NOTHING, "the first missing", () -> t.join(9, 0, 5));
        due.finds(t, NOTHING, "the second missing", () -> t.join(0, 9, 5));
        due.badBoards(t, "join first", b -> t.join(b, 9, 5));
        due.badBoards(t, "join second", b -> t.join(9, b, 5));
        due.badBoards(t, "join to", b -> t.join(9, 9, b));
    }

    private static void badAndMissing(TowerBoards t, FromTo call) {
        due.badBoards(t, "from", b -> call.of(b, 1));
        due.badBoards(t, "to", b -> call.of(9, b));
        due.finds(t, NOTHING, "of a missing board", () -> call.of(9, 1));
        due.finds(t, NOTHING, "of a missing board to a missing one", () -> call.of(9, 10));
    }

    /** A call that makes a BOARD of another one. */
    interface FromTo {
        int of(int b, int to);
    }
}
