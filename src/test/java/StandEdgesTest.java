import java.util.Arrays;

/** The boundaries of promises 28 to 30 (STANDS in ORDER), each a case of its own. */
public final class StandEdgesTest {
    private static final int NOTHING = Edges.NOTHING, BEYOND = Edges.BEYOND, UNLIKE = Edges.UNLIKE, SIZE = Edges.SIZE;
    private static final int LEAST = Edges.LEAST, MOST = Edges.MOST;
    private static final int NONE = TowerBoards.NONE;
    private static final int[] NO_TOWERS = {NONE, NONE, NONE, NONE, NONE, NONE};
    private static final Edges edges = new Edges();

    public static void main(String[] args) {
        stand();
        standBeyond();
        standRefused();
        rank();
        rankAndNextRefused("Promise 29: rank", TowerBoards::rank);
        next();
        nextIsNone();
        rankAndNextRefused("Promise 30: next", TowerBoards::next);
        edges.end();
    }

    private static void full(TowerBoards t) {
        t.ring(4, 6, 63);
    }

    // ---- promise 28

    private static void standIs(String words, Edges.Calls made, int k, int p, int... want) {
        edges.at(words + ", STAND " + p + " of " + k).after(made).call(t -> t.stand(4, k, p, 2)).answers(1).row(2, want);
    }

    private static void stand() {
        edges.under("Promise 28: stand");
        standIs("one by one, empty", t -> t.ring(4, 1, 0), 0, 0, NONE);
        standIs("one by one, full", t -> t.ring(4, 1, 1), 0, 0, NONE);
        standIs("one by one, full", t -> t.ring(4, 1, 1), 1, 0, 0);
        standIs("none in six rows", StandEdgesTest::full, 0, 0, NO_TOWERS);
        standIs("the first of one", StandEdgesTest::full, 1, 0, 0, NONE, NONE, NONE, NONE, NONE);
        standIs("the last of the first row", StandEdgesTest::full, 1, 5, 5, NONE, NONE, NONE, NONE, NONE);
        standIs("no CELL in a row is behind all columns", StandEdgesTest::full, 1, 6, NONE, 0, NONE, NONE, NONE, NONE);
        standIs("the last of one", StandEdgesTest::full, 1, 35, NONE, NONE, NONE, NONE, NONE, 5);
        standIs("the first of six", StandEdgesTest::full, 6, 0, 0, 1, 2, 3, 4, 5);
        standIs("the last of six", StandEdgesTest::full, 6, 719, 5, 4, 3, 2, 1, 0);
        standIs("the last of four", StandEdgesTest::full, 4, 5399, NONE, NONE, 5, 4, 3, 2);
        standIs("H columns, one row", t -> Make.board(t, 4, 6, 63), 1, 5, 5);
        standIs("H columns, six rows", t -> Make.filled(t, 4, 6, 1, 1), 1, 5, NONE, NONE, NONE, NONE, NONE, 0);
        standIs("a ROW anew, longer before", t -> {
            t.ring(4, 2, 3);
            Make.row(t, 2, 7, 7, 7, 7);
        }, 2, 1, 1, 0);
        standIs("a ROW anew, shorter before", t -> {
            t.ring(4, 2, 3);
            Make.row(t, 2, 7);
        }, 2, 1, 1, 0);
        standIs("a ROW anew, empty before", t -> {
            t.ring(4, 2, 3);
            t.row(2, 0);
        }, 2, 1, 1, 0);
        for (int r = 0; r <= 7; r++) {
            int number = r;
            edges.at("to ROWS 0 .. 7, " + r).fresh().after(t -> t.ring(4, 1, 1))
                .call(t -> t.stand(4, 1, 0, number)).answers(1).row(r, 0);
        }
    }

    private static void standBeyond() {
        edges.under("Promise 28: stand, BEYOND: no such STAND");
        int[][] beyond = {{0, 1}, {1, 36}, {2, 450}, {3, 2400}, {4, 5400}, {5, 4320}, {6, 720}, {7, 0}, {36, 0},
            {0, MOST}, {6, MOST}, {36, MOST}};
        for (int[] one : beyond) {
            edges.at("six by six, full, STAND " + one[1] + " of " + one[0]).after(t -> {
                full(t);
                Make.row(t, 2, 5, 5);
            }).call(t -> t.stand(4, one[0], one[1], 2)).finds(BEYOND);
        }
        edges.at("one by one, empty, STAND 0 of 1, to a missing ROW").after(t -> t.ring(4, 1, 0))
            .call(t -> t.stand(4, 1, 0, 2)).finds(BEYOND);
        edges.at("one by one, empty, STAND 1 of 0").after(t -> t.ring(4, 1, 0))
            .call(t -> t.stand(4, 0, 1, 2)).finds(BEYOND);
    }

    private static void standRefused() {
        edges.under("Promise 28: stand");
        for (int k : Edges.outside(0, 36)) {
            edges.at("BAD: k 0 .. 36, " + k).after(StandEdgesTest::full).call(t -> t.stand(4, k, 0, 2)).bad();
            edges.at("BAD ahead of NOTHING, k " + k).call(t -> t.stand(4, k, 0, 2)).bad();
            edges.at("BAD ahead of BEYOND, k " + k).after(StandEdgesTest::full).call(t -> t.stand(4, k, MOST, 2)).bad();
        }
        for (int p : new int[] {-1, -2, LEAST}) {
            edges.at("BAD: p below 0, " + p).after(StandEdgesTest::full).call(t -> t.stand(4, 1, p, 2)).bad();
            edges.at("BAD ahead of NOTHING, p " + p).call(t -> t.stand(4, 1, p, 2)).bad();
            edges.at("BAD ahead of BEYOND, p " + p).after(StandEdgesTest::full).call(t -> t.stand(4, 7, p, 2)).bad();
        }
        for (int b : Edges.NO_BOARDS) {
            edges.at("BAD, BOARD " + b).call(t -> t.stand(b, 0, 0, 2)).bad();
        }
        for (int r : Edges.NO_ROWS) {
            edges.at("BAD, ROW " + r).after(StandEdgesTest::full).call(t -> t.stand(4, 1, 0, r)).bad();
            edges.at("BAD ahead of NOTHING, ROW " + r).call(t -> t.stand(4, 1, 0, r)).bad();
            edges.at("BAD ahead of BEYOND, ROW " + r).after(StandEdgesTest::full).call(t -> t.stand(4, 7, 0, r)).bad();
        }
        edges.at("NOTHING").after(t -> Make.row(t, 2, 5)).call(t -> t.stand(4, 0, 0, 2)).finds(NOTHING);
        edges.at("NOTHING ahead of BEYOND").call(t -> t.stand(4, 36, MOST, 2)).finds(NOTHING);
    }

    // ---- promise 29

    private static void rankIs(String words, int want, Edges.Calls made, int... stand) {
        edges.at(words + ", " + Arrays.toString(stand)).after(t -> {
            made.on(t);
            Make.row(t, 2, stand);
        }).call(t -> t.rank(4, 2)).answers(want);
    }

    private static void rank() {
        edges.under("Promise 29: rank");
        rankIs("one by one, empty", 0, t -> t.ring(4, 1, 0), NONE);
        rankIs("one by one, full, none", 0, t -> t.ring(4, 1, 1), NONE);
        rankIs("one by one, full, one", 0, t -> t.ring(4, 1, 1), 0);
        rankIs("none", 0, StandEdgesTest::full, NO_TOWERS);
        rankIs("the first of one", 0, StandEdgesTest::full, 0, NONE, NONE, NONE, NONE, NONE);
        rankIs("the last of the first row", 5, StandEdgesTest::full, 5, NONE, NONE, NONE, NONE, NONE);
        rankIs("no CELL in a row is behind all columns", 6, StandEdgesTest::full, NONE, 0, NONE, NONE, NONE, NONE);
        rankIs("the last of one", 35, StandEdgesTest::full, NONE, NONE, NONE, NONE, NONE, 5);
        rankIs("the first of six", 0, StandEdgesTest::full, 0, 1, 2, 3, 4, 5);
        rankIs("the last of six", 719, StandEdgesTest::full, 5, 4, 3, 2, 1, 0);
        rankIs("the last of four", 5399, StandEdgesTest::full, NONE, NONE, 5, 4, 3, 2);
        rankIs("one row of six", 5, t -> Make.board(t, 4, 6, 63), 5);
        rankIs("one column of six", 5, t -> Make.filled(t, 4, 6, 1, 1), NONE, NONE, NONE, NONE, NONE, 0);
    }

    /** A call with a BOARD and a ROW that tells a STAND. */
    interface OfStand {
        long of(TowerBoards t, int b, int r);
    }

    private static void rankAndNextRefused(String heading, OfStand call) {
        edges.under(heading);
        for (int b : Edges.NO_BOARDS) {
            edges.at("BAD, BOARD " + b).after(t -> Make.row(t, 2, NONE)).call(t -> call.of(t, b, 2)).bad();
            edges.at("BAD ahead of NOTHING, BOARD " + b).call(t -> call.of(t, b, 2)).bad();
        }
        for (int r : Edges.NO_ROWS) {
            edges.at("BAD, ROW " + r).after(StandEdgesTest::full).call(t -> call.of(t, 4, r)).bad();
            edges.at("BAD ahead of NOTHING, ROW " + r).call(t -> call.of(t, 4, r)).bad();
        }
        edges.at("NOTHING: either, the BOARD").after(t -> Make.row(t, 2, NO_TOWERS))
            .call(t -> call.of(t, 4, 2)).finds(NOTHING);
        edges.at("NOTHING: either, the ROW").after(StandEdgesTest::full).call(t -> call.of(t, 4, 2)).finds(NOTHING);
        edges.at("NOTHING: either, both").call(t -> call.of(t, 4, 2)).finds(NOTHING);
        for (int size : new int[] {0, 1, 5, 7, 36}) {
            int[] none = new int[size];
            Arrays.fill(none, NONE);
            edges.at("SIZE: not H, " + size + " of 6").after(t -> {
                full(t);
                Make.row(t, 2, none);
            }).call(t -> call.of(t, 4, 2)).finds(SIZE);
            edges.at("SIZE ahead of UNLIKE, " + size + " of 6").after(t -> {
                full(t);
                t.row(2, size);
            }).call(t -> call.of(t, 4, 2)).finds(SIZE);
        }
        edges.at("SIZE: V is not H").after(t -> {
            Make.filled(t, 4, 2, 3, 7);
            Make.row(t, 2, NONE, NONE, NONE);
        }).call(t -> call.of(t, 4, 2)).finds(SIZE);
        int[][] none = {{0, NONE}, {NONE, 3}, {1, 1}, {2, 2}, {4, NONE}, {NONE, 4}, {6, NONE}, {-1, NONE}, {NONE, -1},
            {-8, NONE}, {-10, NONE}, {32, NONE}, {33, NONE}, {NONE, 32}, {LEAST, NONE}, {NONE, LEAST}, {MOST, NONE},
            {NONE, MOST}};
        for (int[] stand : none) {
            edges.at("UNLIKE: it is no STAND, " + Arrays.toString(stand)).after(t -> {
                Make.board(t, 4, 4, 6, 7);
                Make.row(t, 2, stand);
            }).call(t -> call.of(t, 4, 2)).finds(UNLIKE);
        }
        edges.at("UNLIKE: the first and the last of six in one column").after(t -> {
            full(t);
            Make.row(t, 2, 0, 1, 2, 3, 4, 0);
        }).call(t -> call.of(t, 4, 2)).finds(UNLIKE);
        edges.at("UNLIKE: column 6 of six").after(t -> {
            full(t);
            Make.row(t, 2, 0, 1, 2, 3, 4, 6);
        }).call(t -> call.of(t, 4, 2)).finds(UNLIKE);
        edges.at("UNLIKE: a BOARD without CELLS").after(t -> {
            t.ring(4, 1, 0);
            Make.row(t, 2, 0);
        }).call(t -> call.of(t, 4, 2)).finds(UNLIKE);
    }

    // ---- promise 30

    private static void nextIs(String words, Edges.Calls made, int[] stand, int... want) {
        edges.at(words + ", " + Arrays.toString(stand)).after(t -> {
            made.on(t);
            Make.row(t, 2, stand);
        }).call(t -> t.next(4, 2)).answers(1).row(2, want);
    }

    private static void next() {
        edges.under("Promise 30: next");
        nextIs("of six, after the first", StandEdgesTest::full, new int[] {0, 1, 2, 3, 4, 5}, 0, 1, 2, 3, 5, 4);
        nextIs("of six, to the last", StandEdgesTest::full, new int[] {5, 4, 3, 2, 0, 1}, 5, 4, 3, 2, 1, 0);
        nextIs("of six, the first row goes on", StandEdgesTest::full, new int[] {0, 5, 4, 3, 2, 1}, 1, 0, 2, 3, 4, 5);
        nextIs("of one, to the next row", StandEdgesTest::full, new int[] {5, NONE, NONE, NONE, NONE, NONE},
            NONE, 0, NONE, NONE, NONE, NONE);
        nextIs("of one, to the last", StandEdgesTest::full, new int[] {NONE, NONE, NONE, NONE, NONE, 4},
            NONE, NONE, NONE, NONE, NONE, 5);
        nextIs("one row of six", t -> Make.board(t, 4, 6, 63), new int[] {4}, 5);
        nextIs("one column of six", t -> Make.filled(t, 4, 6, 1, 1), new int[] {0, NONE, NONE, NONE, NONE, NONE},
            NONE, 0, NONE, NONE, NONE, NONE);
        nextIs("columns between that are no CELLS", t -> Make.board(t, 4, 6, 33), new int[] {0}, 5);
    }

    private static void lastIs(String words, Edges.Calls made, int... stand) {
        edges.at(words + ", " + Arrays.toString(stand)).after(t -> {
            made.on(t);
            Make.row(t, 2, stand);
        }).call(t -> t.next(4, 2)).none();
    }

    private static void nextIsNone() {
        edges.under("Promise 30: next, NONE: it is the last one");
        lastIs("one by one, empty", t -> t.ring(4, 1, 0), NONE);
        lastIs("one by one, full, none", t -> t.ring(4, 1, 1), NONE);
        lastIs("one by one, full, one", t -> t.ring(4, 1, 1), 0);
        lastIs("none of six", StandEdgesTest::full, NO_TOWERS);
        lastIs("of one", StandEdgesTest::full, NONE, NONE, NONE, NONE, NONE, 5);
        lastIs("of four", StandEdgesTest::full, NONE, NONE, 5, 4, 3, 2);
        lastIs("of six", StandEdgesTest::full, 5, 4, 3, 2, 1, 0);
        lastIs("the only one of six", t -> t.ring(4, 6, 1), 0, 1, 2, 3, 4, 5);
    }
}
