import java.util.Arrays;

/** The boundaries of promises 36 to 39 (ARROWS, PATHS, RINGS, SLANTS), each a case of its own. */
public final class ArrowEdgesTest {
    private static final int NOTHING = Edges.NOTHING, UNLIKE = Edges.UNLIKE, SIZE = Edges.SIZE;
    private static final int LEAST = Edges.LEAST, MOST = Edges.MOST;
    private static final int NONE = TowerBoards.NONE;
    private static final int[][] NOT_SQUARE = {{1, 2}, {2, 1}, {1, 6}, {6, 1}, {5, 6}, {6, 5}};
    private static final Edges edges = new Edges();

    public static void main(String[] args) {
        rounds();
        roundsRefused();
        longRings();
        longRingsRefused();
        ringOf();
        ringOfRefused();
        slants();
        edges.end();
    }

    // ---- promise 36

    private static void roundsAre(String words, Edges.Calls made, int k, long... want) {
        for (int c = 0; c <= 6; c++) {
            int rings = c;
            edges.at(words + ", ROUNDS " + k + ", " + c).after(made).call(t -> t.rounds(4, k, rings)).answers(1)
                .ways(c < want.length ? want[c] : 0);
        }
    }

    private static void rounds() {
        edges.under("Promise 36: rounds");
        roundsAre("one by one, empty", t -> t.ring(4, 1, 0), 0, 1);
        roundsAre("one by one, empty", t -> t.ring(4, 1, 0), 1);
        roundsAre("one by one, full: a RING of one place", t -> t.ring(4, 1, 1), 1, 0, 1);
        roundsAre("k above n", t -> t.ring(4, 1, 1), 2);
        roundsAre("k above n", t -> t.ring(4, 5, 31), 6);
        roundsAre("k 0: PATHS of one place alone", t -> t.ring(4, 6, 63), 0, 1);
        roundsAre("k 1: one PATH of two places, or a RING of one", t -> t.ring(4, 6, 63), 1, 30, 6);
        roundsAre("k less n by 1: one PATH", t -> t.ring(4, 6, 63), 5, 720, 1644, 1350, 510, 90, 6);
        roundsAre("k n: RINGS alone", t -> t.ring(4, 6, 63), 6, 0, 120, 274, 225, 85, 15, 1);
        roundsAre("as many RINGS as places", t -> t.ring(4, 6, 1), 6, 0, 0, 0, 0, 0, 0, 1);
        roundsAre("one RING of all places", t -> t.ring(4, 6, 2), 6, 0, 1);
        roundsAre("one RING of all places, the other way round", t -> t.ring(4, 6, 32), 6, 0, 1);
        roundsAre("all but one ARROW: no RING yet", t -> t.ring(4, 6, 2), 5, 6);
        roundsAre("three RINGS of two places", t -> t.ring(4, 6, 8), 6, 0, 0, 0, 1);
        roundsAre("without ARROWS", t -> t.ring(4, 6, 0), 6);
    }

    private static void roundsRefused() {
        edges.under("Promise 36: rounds");
        for (int x : Edges.outside(0, 6)) {
            edges.at("BAD, k " + x).after(t -> t.ring(4, 6, 63)).call(t -> t.rounds(4, x, 0)).bad();
            edges.at("BAD, c " + x).after(t -> t.ring(4, 6, 63)).call(t -> t.rounds(4, 0, x)).bad();
            edges.at("BAD ahead of NOTHING, k " + x).call(t -> t.rounds(4, x, 0)).bad();
            edges.at("BAD ahead of NOTHING, c " + x).call(t -> t.rounds(4, 0, x)).bad();
            edges.at("BAD ahead of UNLIKE, k " + x).after(t -> Make.board(t, 4, 2, 3)).call(t -> t.rounds(4, x, 0)).bad();
            edges.at("BAD ahead of UNLIKE, c " + x).after(t -> Make.board(t, 4, 2, 3)).call(t -> t.rounds(4, 0, x)).bad();
        }
        for (int b : Edges.NO_BOARDS) {
            edges.at("BAD, BOARD " + b).call(t -> t.rounds(b, 0, 0)).bad();
        }
        edges.at("NOTHING").call(t -> t.rounds(4, 0, 0)).finds(NOTHING);
        edges.at("NOTHING, the greatest").call(t -> t.rounds(4, 6, 6)).finds(NOTHING);
        for (int[] size : NOT_SQUARE) {
            edges.at("UNLIKE: not n by n, " + size[0] + " by " + size[1])
                .after(t -> Make.filled(t, 4, size[0], size[1], 1)).call(t -> t.rounds(4, 0, 0)).finds(UNLIKE);
        }
    }

    // ---- promise 37

    private static void longAre(String words, Edges.Calls made, long... want) {
        for (int m = 1; m <= 6; m++) {
            int shortest = m;
            edges.at(words + ", LONG " + m).after(made).call(t -> t.longRings(4, shortest)).answers(1)
                .ways(m <= want.length ? want[m - 1] : 0);
        }
    }

    private static void longRings() {
        edges.under("Promise 37: longRings");
        longAre("one by one, empty", t -> t.ring(4, 1, 0));
        longAre("one by one, full", t -> t.ring(4, 1, 1), 1);
        longAre("two by two, full", t -> t.ring(4, 2, 3), 2, 1);
        longAre("six by six, full", t -> t.ring(4, 6, 63), 720, 265, 160, 120, 120, 120);
        longAre("six by six, empty", t -> t.ring(4, 6, 0));
        longAre("RINGS of one place alone", t -> t.ring(4, 6, 1), 1);
        longAre("RINGS of two places alone", t -> t.ring(4, 6, 8), 1, 1);
        longAre("RINGS of three places alone", t -> t.ring(4, 6, 4), 1, 1, 1);
        longAre("a RING of all six places alone", t -> t.ring(4, 6, 2), 1, 1, 1, 1, 1, 1);
        longAre("m above n", t -> t.ring(4, 5, 2), 1, 1, 1, 1, 1);
        longAre("one RING is shorter", t -> Make.board(t, 4, 6, 1, 4, 8, 16, 32, 2), 1);
        longAre("fewer than n ARROWS", t -> Make.board(t, 4, 6, 2, 4, 8, 16, 32, 0));
    }

    private static void longRingsRefused() {
        edges.under("Promise 37: longRings");
        for (int m : Edges.outside(1, 6)) {
            edges.at("BAD, m " + m).after(t -> t.ring(4, 6, 63)).call(t -> t.longRings(4, m)).bad();
            edges.at("BAD ahead of NOTHING, m " + m).call(t -> t.longRings(4, m)).bad();
            edges.at("BAD ahead of UNLIKE, m " + m).after(t -> Make.board(t, 4, 2, 3)).call(t -> t.longRings(4, m)).bad();
        }
        for (int b : Edges.NO_BOARDS) {
            edges.at("BAD, BOARD " + b).call(t -> t.longRings(b, 1)).bad();
        }
        edges.at("NOTHING").call(t -> t.longRings(4, 1)).finds(NOTHING);
        edges.at("NOTHING, the greatest").call(t -> t.longRings(4, 6)).finds(NOTHING);
        for (int[] size : NOT_SQUARE) {
            edges.at("UNLIKE, not n by n, " + size[0] + " by " + size[1])
                .after(t -> Make.filled(t, 4, size[0], size[1], 1)).call(t -> t.longRings(4, 1)).finds(UNLIKE);
        }
    }

    // ---- promise 38

    private static void stand(TowerBoards t, int... stand) {
        t.ring(4, stand.length, (1 << stand.length) - 1);
        Make.row(t, 2, stand);
    }

    /** These RINGS, and no others. */
    private static void ringsAre(String words, int[] stand, int... want) {
        for (int c = 0; c < want.length; c++) {
            int asked = c;
            edges.at(words + ", RING " + c + " of " + Arrays.toString(stand)).after(t -> stand(t, stand))
                .call(t -> t.ringOf(4, 2, asked)).answers(Integer.bitCount(want[c])).asked(want[c]);
        }
        for (int c : new int[] {want.length, want.length + 1, 6, 7, 31, 32, MOST, -1, LEAST}) {
            edges.at(words + ", NONE: no such RING, " + c + " of " + Arrays.toString(stand)).after(t -> stand(t, stand))
                .call(t -> t.ringOf(4, 2, c)).none();
        }
    }

    private static void ringOf() {
        edges.under("Promise 38: ringOf");
        ringsAre("one by one", new int[] {0}, 1);
        ringsAre("one by one, a PATH of one place", new int[] {NONE});
        ringsAre("PATHS of one place", new int[] {NONE, NONE, NONE, NONE, NONE, NONE});
        ringsAre("RINGS of one place", new int[] {0, 1, 2, 3, 4, 5}, 1, 2, 4, 8, 16, 32);
        ringsAre("a RING of all places", new int[] {1, 2, 3, 4, 5, 0}, 63);
        ringsAre("a RING of all places, the other way round", new int[] {5, 0, 1, 2, 3, 4}, 63);
        ringsAre("a PATH of all places", new int[] {1, 2, 3, 4, 5, NONE});
        ringsAre("a PATH of all places, the other way round", new int[] {NONE, 0, 1, 2, 3, 4});
        ringsAre("by their least places", new int[] {5, 4, 3, 2, 1, 0}, 33, 18, 12);
        ringsAre("the last place alone", new int[] {NONE, NONE, NONE, NONE, NONE, 5}, 32);
        ringsAre("a PATH ahead of a RING", new int[] {1, NONE, 3, 2, 4, NONE}, 12, 16);
        ringsAre("a PATH that goes down ahead of a RING", new int[] {NONE, 0, 5, NONE, 4, 2}, 36, 16);
    }

    private static void ringOfRefused() {
        edges.under("Promise 38: ringOf");
        for (int b : Edges.NO_BOARDS) {
            edges.at("BAD, BOARD " + b).after(t -> Make.row(t, 2, 0)).call(t -> t.ringOf(b, 2, 0)).bad();
            edges.at("BAD ahead of NOTHING, BOARD " + b).call(t -> t.ringOf(b, 2, 0)).bad();
        }
        for (int r : Edges.NO_ROWS) {
            edges.at("BAD, ROW " + r).after(t -> t.ring(4, 2, 3)).call(t -> t.ringOf(4, r, 0)).bad();
            edges.at("BAD ahead of NOTHING, ROW " + r).call(t -> t.ringOf(4, r, 0)).bad();
        }
        edges.at("NOTHING, the BOARD").after(t -> Make.row(t, 2, 0)).call(t -> t.ringOf(4, 2, 0)).finds(NOTHING);
        edges.at("NOTHING, the ROW").after(t -> t.ring(4, 2, 3)).call(t -> t.ringOf(4, 2, 0)).finds(NOTHING);
        edges.at("NOTHING, both").call(t -> t.ringOf(4, 2, 0)).finds(NOTHING);
        for (int size : new int[] {0, 1, 3, 36}) {
            edges.at("SIZE, " + size + " of 2").after(t -> {
                t.ring(4, 2, 3);
                t.row(2, size);
            }).call(t -> t.ringOf(4, 2, 0)).finds(SIZE);
        }
        edges.at("SIZE ahead of UNLIKE, not n by n").after(t -> {
            Make.filled(t, 4, 2, 3, 7);
            Make.row(t, 2, 0, 1, 2);
        }).call(t -> t.ringOf(4, 2, 0)).finds(SIZE);
        for (int[] size : NOT_SQUARE) {
            int[] none = new int[size[0]];
            Arrays.fill(none, NONE);
            edges.at("UNLIKE: not n by n, " + size[0] + " by " + size[1]).after(t -> {
                Make.filled(t, 4, size[0], size[1], 1);
                Make.row(t, 2, none);
            }).call(t -> t.ringOf(4, 2, 0)).finds(UNLIKE);
        }
        int[][] none = {{0, NONE}, {NONE, 1}, {1, 1}, {2, NONE}, {NONE, 2}, {-1, NONE}, {-8, NONE}, {-10, NONE},
            {33, NONE}, {LEAST, NONE}, {NONE, MOST}};
        for (int[] stand : none) {
            for (int c : new int[] {0, 1, -1}) {
                edges.at("UNLIKE: no STAND, " + Arrays.toString(stand) + ", RING " + c).after(t -> {
                    t.ring(4, 2, 2);
                    Make.row(t, 2, stand);
                }).call(t -> t.ringOf(4, 2, c)).finds(UNLIKE);
            }
        }
    }

    // ---- promise 39

    private static void slantsAre(String words, Edges.Calls made, long... want) {
        for (int k = 0; k <= 11; k++) {
            int asked = k;
            edges.at(words + ", SLANTS " + k).after(made).call(t -> t.slants(4, asked)).answers(1)
                .ways(k < want.length ? want[k] : 0);
        }
    }

    private static void slants() {
        edges.under("Promise 39: slants");
        slantsAre("one by one, empty", t -> t.ring(4, 1, 0), 1);
        slantsAre("one by one, full", t -> t.ring(4, 1, 1), 1, 1);
        slantsAre("six by six, empty", t -> t.ring(4, 6, 0), 1);
        slantsAre("six by six, full", t -> t.ring(4, 6, 63),
            1, 36, 520, 3896, 16428, 39680, 53744, 38368, 12944, 1600, 64);
        slantsAre("one row", t -> Make.board(t, 4, 6, 63), 1, 6, 15, 20, 15, 6, 1);
        slantsAre("one column", t -> Make.filled(t, 4, 6, 1, 1), 1, 6, 15, 20, 15, 6, 1);
        slantsAre("i less j alike", t -> t.ring(4, 6, 1), 1, 6);
        slantsAre("i and j together alike", t -> Make.board(t, 4, 6, 32, 16, 8, 4, 2, 1), 1, 6);
        slantsAre("the corners that are alike", t -> Make.board(t, 4, 6, 1, 0, 0, 0, 0, 32), 1, 2);
        slantsAre("the other corners that are alike", t -> Make.board(t, 4, 6, 32, 0, 0, 0, 0, 1), 1, 2);
        slantsAre("corners that are not alike", t -> Make.board(t, 4, 6, 33, 0, 0, 0, 0, 0), 1, 2, 1);
        slantsAre("diagonals do not wrap around, i less j", t -> Make.board(t, 4, 6, 32, 1), 1, 2, 1);
        slantsAre("diagonals do not wrap around, i and j together", t -> Make.board(t, 4, 6, 1, 32), 1, 2, 1);
        for (int k : Edges.outside(0, 11)) {
            edges.at("BAD, k " + k).after(t -> t.ring(4, 6, 63)).call(t -> t.slants(4, k)).bad();
            edges.at("BAD ahead of NOTHING, k " + k).call(t -> t.slants(4, k)).bad();
        }
        for (int b : Edges.NO_BOARDS) {
            edges.at("BAD, BOARD " + b).call(t -> t.slants(b, 0)).bad();
        }
        edges.at("NOTHING").call(t -> t.slants(4, 0)).finds(NOTHING);
        edges.at("NOTHING, the greatest").call(t -> t.slants(4, 11)).finds(NOTHING);
    }
}
