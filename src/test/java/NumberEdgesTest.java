import java.util.Arrays;

/** The boundaries of promises 20 to 27 (STANDS, HITS, ALIKE, SUM, ROOTS, SPREAD), each a case of its own. */
public final class NumberEdgesTest {
    private static final int NOTHING = Edges.NOTHING, BEYOND = Edges.BEYOND, UNLIKE = Edges.UNLIKE;
    private static final int LEAST = Edges.LEAST, MOST = Edges.MOST;
    private static final Edges edges = new Edges();

    public static void main(String[] args) {
        towers();
        hits();
        meanHits();
        alike();
        stairsLike();
        sum();
        root();
        rootRefused();
        spread();
        edges.end();
    }

    private static int[] all(int n, int value) {
        int[] values = new int[n];
        Arrays.fill(values, value);
        return values;
    }

    // ---- promise 20

    private static void towersAre(String words, Edges.Calls made, int k, long want) {
        edges.at(words + ", N(" + k + ")").after(made).call(t -> t.towers(4, k)).answers(1).ways(want);
    }

    private static void towers() {
        edges.under("Promise 20: towers");
        for (int k : new int[] {0, 1, 2, 6, 7, 36}) {
            towersAre("one by one, empty", t -> t.ring(4, 1, 0), k, k == 0 ? 1 : 0);
            towersAre("one by one, full", t -> t.ring(4, 1, 1), k, k <= 1 ? 1 : 0);
            towersAre("six by six, empty", t -> t.ring(4, 6, 0), k, k == 0 ? 1 : 0);
        }
        long[] rows = {1, 6, 0, 0, 0, 0, 0, 0};
        long[] square = {1, 36, 450, 2400, 5400, 4320, 720, 0};
        for (int k = 0; k <= 7; k++) {
            towersAre("one by six, full", t -> Make.board(t, 4, 6, 63), k, rows[k]);
            towersAre("six by one, full", t -> Make.filled(t, 4, 6, 1, 1), k, rows[k]);
            towersAre("six by six, full", t -> t.ring(4, 6, 63), k, square[k]);
        }
        for (int k : new int[] {35, 36}) {
            towersAre("six by six, full", t -> t.ring(4, 6, 63), k, 0);
        }
        for (int k : Edges.outside(0, 36)) {
            edges.at("BAD, k " + k).after(t -> t.ring(4, 6, 63)).call(t -> t.towers(4, k)).bad();
            edges.at("BAD ahead of NOTHING, k " + k).call(t -> t.towers(4, k)).bad();
        }
        for (int b : Edges.NO_BOARDS) {
            edges.at("BAD, BOARD " + b).call(t -> t.towers(b, 0)).bad();
        }
        for (int k : new int[] {0, 36}) {
            edges.at("NOTHING, k " + k).call(t -> t.towers(4, k)).finds(NOTHING);
        }
    }

    // ---- promise 21

    private static void hitsAre(String words, Edges.Calls made, long... want) {
        for (int k = 0; k <= 6; k++) {
            int asked = k;
            edges.at(words + ", HITS of " + k).after(made).call(t -> t.hits(4, asked)).answers(1)
                .ways(k < want.length ? want[k] : 0);
        }
    }

    private static void hits() {
        edges.under("Promise 21: hits");
        hitsAre("one by one, empty", t -> t.ring(4, 1, 0), 1);
        hitsAre("one by one, full", t -> t.ring(4, 1, 1), 0, 1);
        hitsAre("six by six, empty", t -> t.ring(4, 6, 0), 720);
        hitsAre("six by six, full", t -> t.ring(4, 6, 63), 0, 0, 0, 0, 0, 0, 720);
        hitsAre("six by six, one CELL", t -> Make.board(t, 4, 6, 0, 0, 0, 0, 0, 32), 600, 120);
        hitsAre("six by six, one CELL missing", t -> Make.board(t, 4, 6, 31, 63, 63, 63, 63, 63), 0, 0, 0, 0, 0, 120, 600);
        hitsAre("n is the greater, V", t -> Make.board(t, 4, 6, 1), 600, 120);
        hitsAre("n is the greater, H", t -> Make.board(t, 4, 1, 0, 0, 0, 0, 0, 1), 600, 120);
        hitsAre("n is the greater, V, full", t -> Make.filled(t, 4, 2, 3, 7), 0, 0, 6);
        hitsAre("n is the greater, H, full", t -> Make.filled(t, 4, 3, 2, 3), 0, 0, 6);
        hitsAre("n is the greater, V, empty", t -> Make.filled(t, 4, 5, 6, 0), 720);
        hitsAre("k above n", t -> t.ring(4, 2, 3), 0, 0, 2);
        for (int k : Edges.outside(0, 6)) {
            edges.at("BAD, k " + k).after(t -> t.ring(4, 6, 63)).call(t -> t.hits(4, k)).bad();
            edges.at("BAD ahead of NOTHING, k " + k).call(t -> t.hits(4, k)).bad();
        }
        for (int b : Edges.NO_BOARDS) {
            edges.at("BAD, BOARD " + b).call(t -> t.hits(b, 0)).bad();
        }
        for (int k : new int[] {0, 6}) {
            edges.at("NOTHING, k " + k).call(t -> t.hits(4, k)).finds(NOTHING);
        }
    }

    // ---- promise 22

    private static void meanIs(String words, long upper, long lower, Edges.Calls made) {
        edges.at(words + ", " + upper + " by " + lower).after(made).call(t -> t.meanHits(4)).answers(1)
            .fraction(upper, lower);
    }

    private static void meanHits() {
        edges.under("Promise 22: meanHits");
        meanIs("0 by 1, n 1", 0, 1, t -> t.ring(4, 1, 0));
        meanIs("0 by 1, n 6", 0, 1, t -> t.ring(4, 6, 0));
        meanIs("0 by 1, V above H", 0, 1, t -> Make.board(t, 4, 6, 0));
        meanIs("a whole number, n 1", 1, 1, t -> t.ring(4, 1, 1));
        meanIs("a whole number, n 6", 6, 1, t -> t.ring(4, 6, 63));
        meanIs("a whole number, V above H", 1, 1, t -> Make.board(t, 4, 6, 63));
        meanIs("one CELL, n the greater, V", 1, 6, t -> Make.board(t, 4, 6, 1));
        meanIs("one CELL, n the greater, H", 1, 6, t -> Make.board(t, 4, 1, 0, 0, 0, 0, 0, 1));
        meanIs("lowest terms, by 2", 1, 3, t -> Make.board(t, 4, 6, 3));
        meanIs("lowest terms, by 3", 1, 2, t -> Make.board(t, 4, 6, 7));
        meanIs("lowest terms, 4 by 6", 2, 3, t -> Make.board(t, 4, 6, 15));
        meanIs("lowest terms, 2 by 4", 1, 2, t -> Make.board(t, 4, 4, 3));
        meanIs("lowest terms, 6 by 4", 3, 2, t -> Make.board(t, 4, 4, 7, 7));
        meanIs("lowest terms already", 5, 6, t -> Make.board(t, 4, 6, 31));
        meanIs("lowest terms already, the greatest", 35, 6, t -> Make.board(t, 4, 6, 63, 63, 63, 63, 63, 31));
        meanIs("lowest terms, 34 by 6", 17, 3, t -> Make.board(t, 4, 6, 63, 63, 63, 63, 63, 15));
        for (int b : Edges.NO_BOARDS) {
            edges.at("BAD, BOARD " + b).call(t -> t.meanHits(b)).bad();
        }
        edges.at("NOTHING").call(t -> t.meanHits(4)).finds(NOTHING);
    }

    // ---- promise 23

    private static void alikeAre(String words, int want, Edges.Calls made) {
        edges.at(words).after(made).call(t -> t.alike(4, 5)).answers(want);
        edges.at(words + ", the other way").after(made).call(t -> t.alike(5, 4)).answers(want);
    }

    private static void alike() {
        edges.under("Promise 23: alike");
        edges.at("itself").after(t -> t.ring(4, 6, 11)).call(t -> t.alike(4, 4)).answers(1);
        alikeAre("without CELLS, of unlike sizes", 1, t -> {
            t.ring(4, 1, 0);
            t.ring(5, 6, 0);
        });
        alikeAre("one CELL, 0 beyond the most", 1, t -> {
            t.ring(4, 1, 1);
            Make.board(t, 5, 6, 0, 0, 0, 0, 0, 32);
        });
        alikeAre("one row and one column", 1, t -> {
            Make.board(t, 4, 6, 63);
            Make.filled(t, 5, 6, 1, 1);
        });
        alikeAre("of unlike KINDS", 1, t -> {
            t.ring(4, 2, 3);
            Make.stairs(t, 5, 2, 2, 2);
        });
        alikeAre("none and one", 0, t -> {
            t.ring(4, 1, 0);
            t.ring(5, 1, 1);
        });
        alikeAre("unlike in N(2) alone", 0, t -> {
            Make.board(t, 4, 2, 3, 0);
            Make.board(t, 5, 2, 1, 2);
        });
        alikeAre("unlike in N(6) alone", 0, t -> {
            Make.board(t, 4, 6, 34, 51, 59, 12, 18, 5);
            Make.board(t, 5, 6, 18, 37, 39, 16, 45, 13);
        });
        for (int b : Edges.NO_BOARDS) {
            edges.at("BAD, the first, " + b).after(t -> t.ring(4, 1, 1)).call(t -> t.alike(b, 4)).bad();
            edges.at("BAD, the second, " + b).after(t -> t.ring(4, 1, 1)).call(t -> t.alike(4, b)).bad();
            edges.at("BAD ahead of NOTHING, the first, " + b).call(t -> t.alike(b, 4)).bad();
            edges.at("BAD ahead of NOTHING, the second, " + b).call(t -> t.alike(4, b)).bad();
        }
        edges.at("NOTHING: either, the first").after(t -> t.ring(4, 1, 1)).call(t -> t.alike(5, 4)).finds(NOTHING);
        edges.at("NOTHING: either, the second").after(t -> t.ring(4, 1, 1)).call(t -> t.alike(4, 5)).finds(NOTHING);
        edges.at("NOTHING: either, both").call(t -> t.alike(4, 5)).finds(NOTHING);
        edges.at("NOTHING, a missing one and itself").call(t -> t.alike(4, 4)).finds(NOTHING);
    }

    // ---- promise 24

    private static void stairsLikeAre(String words, int want, Edges.Calls made, int... first) {
        edges.at(words).after(made).call(t -> t.stairsLike(4, 2)).answers(want).row(2, first);
        edges.at(words + ", a ROW that is there comes anew").after(t -> {
            made.on(t);
            Make.row(t, 2, 9, 9, 9, 9, 9, 9, 9, 9, 9);
        }).call(t -> t.stairsLike(4, 2)).answers(want).row(2, first);
    }

    private static void stairsLike() {
        edges.under("Promise 24: stairsLike");
        stairsLikeAre("n 1, empty", 1, t -> t.ring(4, 1, 0), 0);
        stairsLikeAre("n 1, full", 1, t -> t.ring(4, 1, 1), 1);
        stairsLikeAre("n 6, empty", 1, t -> t.ring(4, 6, 0), all(6, 0));
        stairsLikeAre("n 6, full", 1, t -> t.ring(4, 6, 63), all(6, 6));
        stairsLikeAre("n 6, one missing", 1, t -> Make.board(t, 4, 6, 63, 31, 63, 63, 63, 63), 5, 6, 6, 6, 6, 6);
        stairsLikeAre("n 6, one CELL", 1, t -> Make.board(t, 4, 6, 0, 0, 4, 0, 0, 0), 0, 0, 0, 0, 0, 1);
        stairsLikeAre("n the greater, V", 2, t -> Make.board(t, 4, 6, 63), 0, 0, 0, 0, 0, 6);
        stairsLikeAre("n the greater, H", 2, t -> Make.filled(t, 4, 6, 1, 1), 0, 0, 0, 0, 0, 6);
        stairsLikeAre("n the greater, V, empty", 1, t -> Make.board(t, 4, 3, 0), 0, 0, 0);
        stairsLikeAre("n the greater, H, empty", 1, t -> Make.filled(t, 4, 3, 1, 0), 0, 0, 0);
        stairsLikeAre("the first by l(0)", 2, t -> Make.stairs(t, 4, 2, 1, 1), 0, 2);
        stairsLikeAre("the first of four by l(0)", 4, t -> Make.stairs(t, 4, 4, 1, 1, 3, 4), 0, 2, 3, 4);
        stairsLikeAre("the first by l(1), l(0) being alike", 2, t -> Make.board(t, 4, 3, 3, 0, 0), 0, 0, 2);
        for (int r = 0; r <= 7; r++) {
            int number = r;
            edges.at("to ROWS 0 .. 7, " + r).fresh().after(t -> t.ring(4, 2, 0))
                .call(t -> t.stairsLike(4, number)).answers(1).row(r, 0, 0);
        }
        edges.at("none, the ROW stays missing").after(t -> Make.board(t, 4, 2, 1, 2))
            .call(t -> t.stairsLike(4, 2)).answers(0);
        edges.at("none, the ROW stays as it was").after(t -> {
            Make.board(t, 4, 2, 1, 2);
            Make.row(t, 2, 5, 6, 7);
        }).call(t -> t.stairsLike(4, 2)).answers(0);
        for (int b : Edges.NO_BOARDS) {
            edges.at("BAD, BOARD " + b).call(t -> t.stairsLike(b, 2)).bad();
        }
        for (int r : Edges.NO_ROWS) {
            edges.at("BAD, ROW " + r).after(t -> t.ring(4, 2, 0)).call(t -> t.stairsLike(4, r)).bad();
            edges.at("BAD ahead of NOTHING, ROW " + r).call(t -> t.stairsLike(4, r)).bad();
        }
        edges.at("NOTHING").after(t -> Make.row(t, 2, 5, 6)).call(t -> t.stairsLike(4, 2)).finds(NOTHING);
        edges.at("NOTHING, to a missing ROW").call(t -> t.stairsLike(4, 2)).finds(NOTHING);
    }

    // ---- promise 25

    private static void sumIs(String words, Edges.Calls made, int x, long want) {
        edges.at(words + ", at " + x).after(made).call(t -> t.sum(4, x)).answers(1).ways(want);
    }

    /** From the first factor on, so many, each one less. */
    private static long falling(long x, int k) {
        long product = 1;
        for (int i = 0; i < k; i++) {
            product *= x - i;
        }
        return product;
    }

    private static void sum() {
        edges.under("Promise 25: sum");
        for (int x : new int[] {-50, -49, -6, -1, 0, 1, 5, 6, 49, 50}) {
            sumIs("n 1, empty", t -> t.ring(4, 1, 0), x, x);
            sumIs("n 1, full", t -> t.ring(4, 1, 1), x, x + 1);
            sumIs("n 6, empty", t -> t.ring(4, 6, 0), x, falling(x, 6));
            sumIs("n 6, full", t -> t.ring(4, 6, 63), x, falling(x + 6, 6));
            sumIs("n the greater, V", t -> Make.board(t, 4, 6, 63), x, falling(x, 5) * (x + 1));
            sumIs("n the greater, H", t -> Make.filled(t, 4, 6, 1, 1), x, falling(x, 5) * (x + 1));
        }
        sumIs("the greatest", t -> t.ring(4, 6, 0), -50, 20872566000L);
        sumIs("FALLING 0 of 0 is 1", t -> t.ring(4, 6, 63), 0, 720);
        for (int x : Edges.outside(-50, 50)) {
            edges.at("BAD, x " + x).after(t -> t.ring(4, 6, 63)).call(t -> t.sum(4, x)).bad();
            edges.at("BAD ahead of NOTHING, x " + x).call(t -> t.sum(4, x)).bad();
        }
        for (int b : Edges.NO_BOARDS) {
            edges.at("BAD, BOARD " + b).call(t -> t.sum(b, 0)).bad();
        }
        for (int x : new int[] {-50, 50}) {
            edges.at("NOTHING, x " + x).call(t -> t.sum(4, x)).finds(NOTHING);
        }
    }

    // ---- promise 26

    private static void rootIs(String words, int i, int want, int v, int... lengths) {
        edges.at(words + ", ROOT " + i).after(t -> Make.stairs(t, 4, v, lengths))
            .call(t -> t.root(4, i)).answers(1).asked(want);
        edges.at(words + ", the SUM at ROOT " + i + " is 0").after(t -> Make.stairs(t, 4, v, lengths))
            .call(t -> t.sum(4, want)).answers(1).ways(0);
    }

    private static void root() {
        edges.under("Promise 26: root");
        rootIs("one by one, empty", 0, 0, 1, 0);
        rootIs("one by one, full", 0, -1, 1, 1);
        for (int i = 0; i < 6; i++) {
            rootIs("six by six, empty", i, i, 6, all(6, 0));
            rootIs("six by six, full", i, i - 6, 6, all(6, 6));
            rootIs("six by six, all at 0", i, 0, 6, 0, 1, 2, 3, 4, 5);
            rootIs("V less than H", i, i - (i == 5 ? 1 : 0), 1, 0, 0, 0, 0, 0, 1);
        }
        rootIs("V no more than H, as many", 1, -1, 2, 0, 2);
    }

    private static void rootRefused() {
        edges.under("Promise 26: root");
        for (int h = 1; h <= 5; h++) {
            int height = h;
            edges.at("UNLIKE: V above H, " + h + " by " + (h + 1)).after(t -> Make.stairs(t, 4, height + 1, all(height, 1)))
                .call(t -> t.root(4, 0)).finds(UNLIKE);
        }
        edges.at("UNLIKE: V above H, 1 by 6").after(t -> Make.stairs(t, 4, 6, 1)).call(t -> t.root(4, 0)).finds(UNLIKE);
        edges.at("UNLIKE: no STAIRS, KIND 0").after(t -> Make.board(t, 4, 2, 1, 3))
            .call(t -> t.root(4, 0)).finds(UNLIKE);
        edges.at("UNLIKE: no STAIRS, a RING").after(t -> t.ring(4, 2, 0)).call(t -> t.root(4, 0)).finds(UNLIKE);
        edges.at("UNLIKE: no STAIRS, a PAIRED one").after(t -> t.ring(4, 2, 3)).call(t -> t.root(4, 0)).finds(UNLIKE);
        edges.at("UNLIKE: STAIRS no longer").after(t -> {
            Make.stairs(t, 4, 2, 0, 2);
            t.other(4, 4);
        }).call(t -> t.root(4, 0)).finds(UNLIKE);
        for (int i : new int[] {-1, 9, LEAST, MOST}) {
            edges.at("UNLIKE ahead of BEYOND, V above H, " + i).after(t -> Make.stairs(t, 4, 3, 0, 2))
                .call(t -> t.root(4, i)).finds(UNLIKE);
            edges.at("UNLIKE ahead of BEYOND, no STAIRS, " + i).after(t -> Make.board(t, 4, 2, 1, 3))
                .call(t -> t.root(4, i)).finds(UNLIKE);
            edges.at("NOTHING ahead of BEYOND, " + i).call(t -> t.root(4, i)).finds(NOTHING);
        }
        for (int i : new int[] {-1, 3, 5, 6, LEAST, MOST}) {
            edges.at("BEYOND, " + i + " of 3").after(t -> Make.stairs(t, 4, 2, 0, 1, 2))
                .call(t -> t.root(4, i)).finds(BEYOND);
        }
        for (int i : new int[] {-1, 6, 7}) {
            edges.at("BEYOND, " + i + " of 6").after(t -> Make.stairs(t, 4, 6, 0, 1, 2, 3, 4, 5))
                .call(t -> t.root(4, i)).finds(BEYOND);
        }
        for (int b : Edges.NO_BOARDS) {
            edges.at("BAD, BOARD " + b).call(t -> t.root(b, 0)).bad();
            edges.at("BAD ahead of BEYOND, BOARD " + b).call(t -> t.root(b, -1)).bad();
        }
        edges.at("NOTHING").call(t -> t.root(4, 0)).finds(NOTHING);
    }

    // ---- promise 27

    private static void spreadIs(String words, Edges.Calls made, int k, int m, long want) {
        edges.at(words + ", SPREAD " + k + ", " + m).after(made).call(t -> t.spread(4, k, m)).answers(1).ways(want);
    }

    private static void spread() {
        edges.under("Promise 27: spread");
        int[][] ones = {{0, 0, 1}, {0, 1, 0}, {1, 0, 0}, {36, 0, 0}, {0, 36, 0}, {36, 36, 0}};
        for (int[] p : ones) {
            spreadIs("one by one, empty", t -> t.ring(4, 1, 0), p[0], p[1], p[2]);
        }
        int[][] full = {{0, 0, 0}, {0, 1, 1}, {0, 2, 0}, {1, 0, 1}, {1, 1, 0}, {2, 0, 0}};
        for (int[] p : full) {
            spreadIs("one by one, full", t -> t.ring(4, 1, 1), p[0], p[1], p[2]);
        }
        int[][] square = {{0, 36, 1}, {0, 35, 0}, {0, 0, 0}, {1, 36, 0}, {1, 35, 1}, {1, 34, 2}, {1, 25, 1}, {1, 24, 0},
            {6, 0, 1}, {6, 1, 5}, {6, 7, 101}, {6, 14, 5}, {6, 15, 1}, {6, 16, 0}, {7, 0, 0}, {36, 0, 0}, {36, 36, 0}};
        for (int[] p : square) {
            spreadIs("six by six, full", t -> t.ring(4, 6, 63), p[0], p[1], p[2]);
        }
        for (int m = 0; m <= 6; m++) {
            spreadIs("one row: those to the right are not FREE", t -> Make.board(t, 4, 6, 63), 1, m, m < 6 ? 1 : 0);
            spreadIs("one column: those below are not FREE", t -> Make.filled(t, 4, 6, 1, 1), 1, m, m < 6 ? 1 : 0);
        }
        for (int x : Edges.outside(0, 36)) {
            edges.at("BAD, k " + x).after(t -> t.ring(4, 6, 63)).call(t -> t.spread(4, x, 0)).bad();
            edges.at("BAD, m " + x).after(t -> t.ring(4, 6, 63)).call(t -> t.spread(4, 0, x)).bad();
            edges.at("BAD ahead of NOTHING, k " + x).call(t -> t.spread(4, x, 0)).bad();
            edges.at("BAD ahead of NOTHING, m " + x).call(t -> t.spread(4, 0, x)).bad();
        }
        for (int b : Edges.NO_BOARDS) {
            edges.at("BAD, BOARD " + b).call(t -> t.spread(b, 0, 0)).bad();
        }
        edges.at("NOTHING").call(t -> t.spread(4, 0, 0)).finds(NOTHING);
        edges.at("NOTHING, the greatest").call(t -> t.spread(4, 36, 36)).finds(NOTHING);
    }
}
