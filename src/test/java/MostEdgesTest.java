import java.util.Arrays;

/** The boundaries of promises 31 to 35 (THE MOST, COVER, WEIGHTS), each a case of its own. */
public final class MostEdgesTest {
    private static final int NOTHING = Edges.NOTHING, BEYOND = Edges.BEYOND, UNLIKE = Edges.UNLIKE, SIZE = Edges.SIZE;
    private static final int LEAST = Edges.LEAST, MOST = Edges.MOST;
    private static final Edges edges = new Edges();

    public static void main(String[] args) {
        most();
        cover();
        need();
        needRefused();
        least();
        weightsRefused("Promise 34: least", TowerBoards::least);
        lack();
        weightsRefused("Promise 35: lack", (t, b, r) -> t.lack(b, r, 0, 0));
        lackRefused();
        edges.end();
    }

    private static int[] all(int n, int value) {
        int[] values = new int[n];
        Arrays.fill(values, value);
        return values;
    }

    // ---- promise 31

    private static void mostIs(String words, int want, int v, int... cells) {
        edges.at(words).after(t -> Make.board(t, 4, v, cells)).call(t -> t.most(4)).answers(want);
    }

    private static void most() {
        edges.under("Promise 31: most");
        mostIs("one by one, empty", 0, 1, 0);
        mostIs("one by one, full", 1, 1, 1);
        mostIs("six by six, empty", 0, 6, all(6, 0));
        mostIs("six by six, full", 6, 6, all(6, 63));
        mostIs("six by six, one CELL", 1, 6, 0, 0, 0, 0, 0, 32);
        mostIs("one row", 1, 6, 63);
        mostIs("one column", 1, 1, all(6, 1));
        mostIs("one row and one column of six", 2, 6, 63, 1, 1, 1, 1, 1);
        mostIs("five columns of six", 5, 6, all(6, 31));
        mostIs("each row with one CELL, all unlike", 6, 6, 32, 16, 8, 4, 2, 1);
        mostIs("one way alone", 6, 6, 1, 3, 7, 15, 31, 63);
        for (int b : Edges.NO_BOARDS) {
            edges.at("BAD, BOARD " + b).call(t -> t.most(b)).bad();
        }
        edges.at("NOTHING").call(t -> t.most(4)).finds(NOTHING);
    }

    // ---- promise 32

    private static void coverIs(String words, int lines, int rows, int columns, int v, int... cells) {
        edges.at(words).after(t -> Make.board(t, 4, v, cells)).call(t -> t.cover(4)).answers(lines)
            .asked(rows * 64 + columns);
    }

    private static void cover() {
        edges.under("Promise 32: cover");
        coverIs("one by one, empty: no line", 0, 0, 0, 1, 0);
        coverIs("six by six, empty: no line", 0, 0, 0, 6, all(6, 0));
        coverIs("one by one, full: the least bits of rows are none", 1, 0, 1, 1, 1);
        coverIs("six by six, full: the least bits of rows are none", 6, 0, 63, 6, all(6, 63));
        coverIs("one row", 1, 1, 0, 6, 63);
        coverIs("the last row of six", 1, 32, 0, 6, 0, 0, 0, 0, 0, 63);
        coverIs("one column", 1, 0, 1, 1, all(6, 1));
        coverIs("the last column of six", 1, 0, 32, 6, all(6, 32));
        coverIs("the first row and the last column", 2, 1, 32, 6, 63, 32, 32, 32, 32, 32);
        coverIs("the last row and the first column", 2, 32, 1, 6, 1, 1, 1, 1, 1, 63);
        coverIs("five rows of six", 5, 31, 0, 6, 63, 63, 63, 63, 63, 0);
        coverIs("the least bits of rows, of two covers with the first row", 2, 1, 1, 4, 15, 1);
        coverIs("the least bits of rows, of covers with the first two rows", 4, 3, 48, 6, 63, 63, 48, 48);
        coverIs("six by one, two CELLS", 1, 0, 1, 1, 1, 0, 0, 0, 0, 1);
        for (int b : Edges.NO_BOARDS) {
            edges.at("BAD, BOARD " + b).call(t -> t.cover(b)).bad();
        }
        edges.at("NOTHING").call(t -> t.cover(4)).finds(NOTHING);
    }

    // ---- promise 33

    private static void needIs(String words, int want, int i, int j, int v, int... cells) {
        edges.at(words + ", " + i + ", " + j).after(t -> Make.board(t, 4, v, cells)).call(t -> t.need(4, i, j))
            .answers(want);
    }

    private static void need() {
        edges.under("Promise 33: need");
        needIs("2 all, one by one", 2, 0, 0, 1, 1);
        needIs("2 all, the only CELL of six by six", 2, 5, 5, 6, 0, 0, 0, 0, 0, 32);
        needIs("2 all, one way alone", 2, 0, 0, 6, 1, 3, 7, 15, 31, 63);
        needIs("2 all, one way alone, the last", 2, 5, 5, 6, 1, 3, 7, 15, 31, 63);
        needIs("0 none, one way alone", 0, 5, 4, 6, 1, 3, 7, 15, 31, 63);
        needIs("0 none, one way alone, the first column", 0, 5, 0, 6, 1, 3, 7, 15, 31, 63);
        needIs("1 some, six by six, full", 1, 5, 5, 6, all(6, 63));
        needIs("1 some, six by six, full, the first", 1, 0, 0, 6, all(6, 63));
        needIs("1 some, one row of six", 1, 0, 5, 6, 63);
        needIs("1 some, one column of six", 1, 5, 0, 1, all(6, 1));
        needIs("1 some, all but one", 1, 0, 1, 2, 3, 3);
        needIs("0 none, where a row and a column meet", 0, 0, 0, 6, 63, 1, 1, 1, 1, 1);
        needIs("1 some, beside it", 1, 0, 1, 6, 63, 1, 1, 1, 1, 1);
    }

    private static void needRefused() {
        edges.under("Promise 33: need");
        int[][] beyond = {{-1, 0}, {0, -1}, {2, 0}, {0, 3}, {2, 3}, {6, 0}, {0, 6}, {0, 32}, {32, 0}, {LEAST, 0},
            {0, LEAST}, {MOST, 0}, {0, MOST}};
        for (int[] one : beyond) {
            edges.at("BEYOND: no such CELL, no PLACE " + one[0] + ", " + one[1] + " of 2 by 3")
                .after(t -> Make.filled(t, 4, 2, 3, 7)).call(t -> t.need(4, one[0], one[1])).finds(BEYOND);
        }
        edges.at("BEYOND: no such CELL, a PLACE that is none").after(t -> Make.board(t, 4, 3, 7, 5))
            .call(t -> t.need(4, 1, 1)).finds(BEYOND);
        edges.at("BEYOND: no such CELL, a BOARD without CELLS").after(t -> t.ring(4, 1, 0))
            .call(t -> t.need(4, 0, 0)).finds(BEYOND);
        for (int b : Edges.NO_BOARDS) {
            edges.at("BAD, BOARD " + b).call(t -> t.need(b, 0, 0)).bad();
            edges.at("BAD ahead of BEYOND, BOARD " + b).call(t -> t.need(b, -1, 0)).bad();
        }
        edges.at("NOTHING").call(t -> t.need(4, 0, 0)).finds(NOTHING);
        edges.at("NOTHING ahead of BEYOND").call(t -> t.need(4, 6, 6)).finds(NOTHING);
    }

    // ---- promise 34

    private static void leastIs(String words, int sum, int times, Edges.Calls made, int... weights) {
        edges.at(words).after(t -> {
            made.on(t);
            Make.row(t, 2, weights);
        }).call(t -> t.least(4, 2)).answers(1).asked(sum).ways(times);
    }

    private static void least() {
        edges.under("Promise 34: least");
        leastIs("one by one, empty: THE MOST is 0", 0, 1, t -> t.ring(4, 1, 0), 1000);
        leastIs("six by six, empty: THE MOST is 0", 0, 1, t -> t.ring(4, 6, 0), all(36, -1000));
        leastIs("one by one, the least WEIGHT", -1000, 1, t -> t.ring(4, 1, 1), -1000);
        leastIs("one by one, the greatest WEIGHT", 1000, 1, t -> t.ring(4, 1, 1), 1000);
        leastIs("six by six, all the least", -6000, 720, t -> t.ring(4, 6, 63), all(36, -1000));
        leastIs("six by six, all the greatest", 6000, 720, t -> t.ring(4, 6, 63), all(36, 1000));
        leastIs("six by six, all 0", 0, 720, t -> t.ring(4, 6, 63), all(36, 0));
        int[] lastLess = all(36, 0);
        lastLess[35] = -1;
        leastIs("the last PLACE counts", -1, 120, t -> t.ring(4, 6, 63), lastLess);
        int[] firstMore = all(36, 0);
        firstMore[0] = 1;
        leastIs("the first PLACE counts", 0, 600, t -> t.ring(4, 6, 63), firstMore);
        leastIs("one row of six", -3, 2, t -> Make.board(t, 4, 6, 63), 0, -3, 5, -3, 1000, -2);
        leastIs("one column of six", -3, 2, t -> Make.filled(t, 4, 6, 1, 1), 0, -3, 5, -3, 1000, -2);
        leastIs("a greater sum of THE MOST, not a lesser one of fewer", 2000, 1, t -> Make.board(t, 4, 2, 3, 1),
            -1000, 1000, 1000, 0);
        leastIs("WEIGHTS of PLACES that are no CELLS", 5, 1, t -> Make.board(t, 4, 2, 1, 2), 2, -1000, -1000, 3);
    }

    /** A call with a BOARD and a ROW of WEIGHTS. */
    interface OfWeights {
        long of(TowerBoards t, int b, int r);
    }

    private static void weightsRefused(String heading, OfWeights call) {
        edges.under(heading);
        for (int b : Edges.NO_BOARDS) {
            edges.at("BAD, BOARD " + b).after(t -> t.row(2, 6)).call(t -> call.of(t, b, 2)).bad();
            edges.at("BAD ahead of NOTHING, BOARD " + b).call(t -> call.of(t, b, 2)).bad();
        }
        for (int r : Edges.NO_ROWS) {
            edges.at("BAD, ROW " + r).after(t -> t.ring(4, 2, 3)).call(t -> call.of(t, 4, r)).bad();
            edges.at("BAD ahead of NOTHING, ROW " + r).call(t -> call.of(t, 4, r)).bad();
        }
        edges.at("NOTHING: either, the BOARD").after(t -> t.row(2, 4)).call(t -> call.of(t, 4, 2)).finds(NOTHING);
        edges.at("NOTHING: either, the ROW").after(t -> t.ring(4, 2, 3)).call(t -> call.of(t, 4, 2)).finds(NOTHING);
        edges.at("NOTHING: either, both").call(t -> call.of(t, 4, 2)).finds(NOTHING);
        for (int size : new int[] {0, 1, 2, 3, 5, 7, 36}) {
            edges.at("SIZE: not H times V, " + size + " of 2 by 3").after(t -> {
                Make.filled(t, 4, 2, 3, 7);
                t.row(2, size);
            }).call(t -> call.of(t, 4, 2)).finds(SIZE);
            edges.at("SIZE ahead of UNLIKE, " + size + " of 2 by 3").after(t -> {
                Make.filled(t, 4, 2, 3, 7);
                Make.row(t, 2, all(size, 1001));
            }).call(t -> call.of(t, 4, 2)).finds(SIZE);
        }
        edges.at("SIZE: 35 of six by six").after(t -> {
            t.ring(4, 6, 63);
            t.row(2, 35);
        }).call(t -> call.of(t, 4, 2)).finds(SIZE);
        for (int weight : new int[] {-1001, 1001, LEAST, MOST}) {
            for (int at = 0; at < 4; at++) {
                int[] weights = all(4, 0);
                weights[at] = weight;
                edges.at("UNLIKE: a number that is none, " + weight + " at " + at).after(t -> {
                    t.ring(4, 2, 3);
                    Make.row(t, 2, weights);
                }).call(t -> call.of(t, 4, 2)).finds(UNLIKE);
            }
            int[] last = all(36, 0);
            last[35] = weight;
            edges.at("UNLIKE: a number that is none, " + weight + " at 35").after(t -> {
                t.ring(4, 6, 63);
                Make.row(t, 2, last);
            }).call(t -> call.of(t, 4, 2)).finds(UNLIKE);
            edges.at("UNLIKE: a number that is none, at a PLACE that is no CELL, " + weight).after(t -> {
                t.ring(4, 2, 1);
                Make.row(t, 2, 0, weight, 0, 0);
            }).call(t -> call.of(t, 4, 2)).finds(UNLIKE);
        }
    }

    // ---- promise 35

    private static void lackIs(String words, int want, int i, int j, Edges.Calls made, int... weights) {
        edges.at(words + ", " + i + ", " + j).after(t -> {
            made.on(t);
            Make.row(t, 2, weights);
        }).call(t -> t.lack(4, 2, i, j)).answers(want);
    }

    private static void lack() {
        edges.under("Promise 35: lack");
        lackIs("0 by one, one by one, the least WEIGHT", 0, 0, 0, t -> t.ring(4, 1, 1), -1000);
        lackIs("0 by one, one by one, the greatest WEIGHT", 0, 0, 0, t -> t.ring(4, 1, 1), 1000);
        lackIs("0, all alike", 0, 5, 5, t -> t.ring(4, 6, 63), all(36, 1000));
        lackIs("the greatest of two by two", 4000, 0, 1, t -> t.ring(4, 2, 3), -1000, 1000, 1000, -1000);
        lackIs("0 of two by two", 0, 1, 1, t -> t.ring(4, 2, 3), -1000, 1000, 1000, -1000);
        int[] apart = all(36, 1000);
        for (int i = 0; i < 6; i++) {
            apart[i * 6 + i] = -1000;
        }
        int[] ringAlone = {2, 4, 8, 16, 32, 1};
        lackIs("the greatest of six by six", 12000, 5, 0, t -> Make.board(t, 4, 6,
            ringAlone[0] | 1, ringAlone[1] | 2, ringAlone[2] | 4, ringAlone[3] | 8, ringAlone[4] | 16, ringAlone[5] | 32),
            apart);
        lackIs("0 of six by six", 0, 5, 5, t -> t.ring(4, 6, 63), apart);
        lackIs("one row of six", 2000, 0, 5, t -> Make.board(t, 4, 6, 63), -1000, 0, 0, 0, 0, 1000);
        lackIs("one column of six", 2000, 5, 0, t -> Make.filled(t, 4, 6, 1, 1), -1000, 0, 0, 0, 0, 1000);
        edges.at("NONE: no such STAND has it").after(t -> {
            Make.board(t, 4, 2, 3, 1);
            t.row(2, 4);
        }).call(t -> t.lack(4, 2, 0, 0)).none();
        edges.at("NONE: no such STAND has it, six by six").after(t -> {
            Make.board(t, 4, 6, 1, 3, 7, 15, 31, 63);
            t.row(2, 36);
        }).call(t -> t.lack(4, 2, 5, 4)).none();
        lackIs("all such STANDS have it", 0, 0, 1, t -> Make.board(t, 4, 2, 3, 1), 0, 1000, 0, 0);
    }

    private static void lackRefused() {
        edges.under("Promise 35: lack");
        int[][] beyond = {{-1, 0}, {0, -1}, {2, 0}, {0, 3}, {2, 3}, {6, 0}, {0, 6}, {0, 32}, {32, 0}, {LEAST, 0},
            {0, LEAST}, {MOST, 0}, {0, MOST}};
        for (int[] one : beyond) {
            edges.at("BEYOND: no such CELL, no PLACE " + one[0] + ", " + one[1] + " of 2 by 3").after(t -> {
                Make.filled(t, 4, 2, 3, 7);
                t.row(2, 6);
            }).call(t -> t.lack(4, 2, one[0], one[1])).finds(BEYOND);
        }
        edges.at("BEYOND: no such CELL, a PLACE that is none").after(t -> {
            Make.board(t, 4, 3, 7, 5);
            t.row(2, 6);
        }).call(t -> t.lack(4, 2, 1, 1)).finds(BEYOND);
        edges.at("BEYOND: no such CELL, a BOARD without CELLS").after(t -> {
            t.ring(4, 1, 0);
            t.row(2, 1);
        }).call(t -> t.lack(4, 2, 0, 0)).finds(BEYOND);
        edges.at("UNLIKE ahead of BEYOND").after(t -> {
            t.ring(4, 2, 3);
            Make.row(t, 2, 0, 0, 0, 1001);
        }).call(t -> t.lack(4, 2, 2, 0)).finds(UNLIKE);
        edges.at("SIZE ahead of BEYOND").after(t -> {
            t.ring(4, 2, 3);
            t.row(2, 3);
        }).call(t -> t.lack(4, 2, 2, 0)).finds(SIZE);
        edges.at("NOTHING ahead of BEYOND, the BOARD").after(t -> t.row(2, 4))
            .call(t -> t.lack(4, 2, -1, 0)).finds(NOTHING);
        edges.at("NOTHING ahead of BEYOND, the ROW").after(t -> t.ring(4, 2, 3))
            .call(t -> t.lack(4, 2, -1, 0)).finds(NOTHING);
        for (int b : Edges.NO_BOARDS) {
            edges.at("BAD ahead of BEYOND, BOARD " + b).after(t -> t.row(2, 4)).call(t -> t.lack(b, 2, -1, 0)).bad();
        }
        for (int r : Edges.NO_ROWS) {
            edges.at("BAD ahead of BEYOND, ROW " + r).after(t -> t.ring(4, 2, 3)).call(t -> t.lack(4, r, 2, 2)).bad();
        }
    }
}
