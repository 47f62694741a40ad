import java.util.Arrays;

/** The boundaries of promises 7 to 15 and of the BOARDS and KINDS, each a case of its own. */
public final class BoardEdgesTest {
    private static final int NOTHING = Edges.NOTHING, BEYOND = Edges.BEYOND, UNLIKE = Edges.UNLIKE, SIZE = Edges.SIZE;
    private static final int LEAST = Edges.LEAST, MOST = Edges.MOST;
    private static final int PLAIN = 0, STAIRS = 1, RING = 2, PAIRED = 3;
    private static final Edges edges = new Edges();

    public static void main(String[] args) {
        board();
        boardRefused();
        stairs();
        stairsRefused();
        ring();
        ringWraps();
        ringRefused();
        drop();
        told();
        is();
        mark();
        cell();
        set();
        setRefused();
        edges.end();
    }

    private static int[] all(int n, int value) {
        int[] values = new int[n];
        Arrays.fill(values, value);
        return values;
    }

    /** One BOARD of each KIND, by its number. */
    private static void oneOfEach(TowerBoards t) {
        Make.board(t, PLAIN, 3, 5, 2);
        Make.stairs(t, STAIRS, 3, 1, 2);
        t.ring(RING, 3, 5);
        t.ring(PAIRED, 3, 3);
    }

    // ---- promise 7

    private static void boardIs(String words, int v, int... cells) {
        int count = Arrays.stream(cells).map(Integer::bitCount).sum();
        edges.at(words + ", " + v + " columns, " + Arrays.toString(cells)).after(t -> Make.row(t, 2, cells))
            .call(t -> t.board(4, v, 2)).answers(count).board(4, PLAIN, v, cells);
    }

    private static void board() {
        edges.under("Promise 7: board");
        boardIs("one by one, empty", 1, 0);
        boardIs("one by one, full", 1, 1);
        for (int n = 1; n <= 6; n++) {
            boardIs("H from 1 to 6, empty", 1, all(n, 0));
            boardIs("H from 1 to 6, full", 1, all(n, 1));
            boardIs("V from 1 to 6, empty", n, 0);
            boardIs("V from 1 to 6, full", n, (1 << n) - 1);
            boardIs("the last column alone", n, 0, 1 << (n - 1));
            boardIs("n by n, full", n, all(n, (1 << n) - 1));
        }
        boardIs("six by six, empty", 6, all(6, 0));
        for (int b = 0; b <= 11; b++) {
            int number = b;
            edges.at("BOARDS 0 .. 11, " + b).fresh().after(t -> Make.row(t, 2, 1, 2))
                .call(t -> t.board(number, 2, 2)).answers(2).board(b, PLAIN, 2, 1, 2);
        }
        for (int kind = PLAIN; kind <= PAIRED; kind++) {
            int number = kind;
            edges.at("in the place of KIND " + kind).after(t -> {
                oneOfEach(t);
                Make.row(t, 2, 4);
            }).call(t -> t.board(number, 4, 2)).answers(1).board(kind, PLAIN, 4, 4);
        }
        edges.at("CELLS that make STAIRS are a BOARD of KIND 0 all the same").after(t -> Make.row(t, 2, 1, 3))
            .call(t -> t.board(4, 2, 2)).answers(3).board(4, PLAIN, 2, 1, 3);
        edges.at("twelve BOARDS of six by six at once").fresh().after(t -> {
            Make.row(t, 0, all(6, 63));
            for (int b = 0; b < 11; b++) {
                t.board(b, 6, 0);
            }
        }).call(t -> t.board(11, 6, 0)).answers(36).board(11, PLAIN, 6, all(6, 63));
        edges.at("it does not hang on the ROW").after(t -> {
            Make.row(t, 2, 1, 2);
            t.board(4, 2, 2);
        }).call(t -> t.lay(2, 0, 3)).answers(1).asked(1).row(2, 3, 2);
    }

    private static void boardRefused() {
        edges.under("Promise 7: board");
        for (int b : Edges.NO_BOARDS) {
            edges.at("BAD, BOARD " + b).after(t -> Make.row(t, 2, 1)).call(t -> t.board(b, 1, 2)).bad();
            edges.at("BAD ahead of NOTHING, BOARD " + b).call(t -> t.board(b, 1, 2)).bad();
            edges.at("BAD ahead of SIZE, BOARD " + b).after(t -> t.row(2, 0)).call(t -> t.board(b, 1, 2)).bad();
            edges.at("BAD ahead of UNLIKE, BOARD " + b).after(t -> Make.row(t, 2, 2)).call(t -> t.board(b, 1, 2)).bad();
        }
        for (int v : Edges.outside(1, 6)) {
            edges.at("BAD, columns " + v).after(t -> Make.row(t, 2, 0)).call(t -> t.board(4, v, 2)).bad();
            edges.at("BAD ahead of NOTHING, columns " + v).call(t -> t.board(4, v, 2)).bad();
            edges.at("BAD ahead of SIZE, columns " + v).after(t -> t.row(2, 7)).call(t -> t.board(4, v, 2)).bad();
            edges.at("BAD ahead of UNLIKE, columns " + v).after(t -> Make.row(t, 2, -1))
                .call(t -> t.board(4, v, 2)).bad();
        }
        for (int r : Edges.NO_ROWS) {
            edges.at("BAD, ROW " + r).after(BoardEdgesTest::oneOfEach).call(t -> t.board(0, 1, r)).bad();
        }
        edges.at("NOTHING").after(BoardEdgesTest::oneOfEach).call(t -> t.board(0, 1, 2)).finds(NOTHING);
        edges.at("SIZE: no rows").after(t -> {
            oneOfEach(t);
            t.row(2, 0);
        }).call(t -> t.board(0, 6, 2)).finds(SIZE);
        for (int h : new int[] {7, 8, 36}) {
            edges.at("SIZE: more than 6, " + h).after(t -> {
                oneOfEach(t);
                t.row(2, h);
            }).call(t -> t.board(0, 6, 2)).finds(SIZE);
            edges.at("SIZE ahead of UNLIKE, " + h).after(t -> Make.row(t, 2, all(h, 64)))
                .call(t -> t.board(0, 6, 2)).finds(SIZE);
        }
        for (int v = 1; v <= 6; v++) {
            int columns = v;
            for (int cells : new int[] {1 << v, (1 << (v + 1)) - 1, -1, LEAST, MOST, 1 << 30}) {
                edges.at("UNLIKE: bits beyond V, " + v + " columns, " + cells).after(t -> {
                    oneOfEach(t);
                    Make.row(t, 2, 0, cells, 0);
                }).call(t -> t.board(0, columns, 2)).finds(UNLIKE);
            }
        }
        edges.at("UNLIKE, the first of six rows").after(t -> Make.row(t, 2, 64, 0, 0, 0, 0, 0))
            .call(t -> t.board(0, 6, 2)).finds(UNLIKE);
        edges.at("UNLIKE, the last of six rows").after(t -> Make.row(t, 2, 0, 0, 0, 0, 0, 64))
            .call(t -> t.board(0, 6, 2)).finds(UNLIKE);
    }

    // ---- promise 8

    private static void stairsAre(String words, int v, int... lengths) {
        int[] cells = Arrays.stream(lengths).map(l -> (1 << l) - 1).toArray();
        edges.at(words + ", " + v + " columns, " + Arrays.toString(lengths)).after(t -> Make.row(t, 2, lengths))
            .call(t -> t.stairs(4, v, 2)).answers(Arrays.stream(lengths).sum()).board(4, STAIRS, v, cells);
    }

    private static void stairs() {
        edges.under("Promise 8: stairs");
        stairsAre("one by one, empty", 1, 0);
        stairsAre("one by one, full", 1, 1);
        for (int n = 1; n <= 6; n++) {
            stairsAre("H from 1 to 6, all 0", 6, all(n, 0));
            stairsAre("H from 1 to 6, all V", 1, all(n, 1));
            stairsAre("V from 1 to 6, one that is 0", n, 0);
            stairsAre("V from 1 to 6, one that is V", n, n);
            stairsAre("from 0 to V at once", n, 0, n);
            stairsAre("none less than the one before it, alike", n, n, n);
        }
        stairsAre("six by six, full", 6, all(6, 6));
        stairsAre("one more each", 6, 1, 2, 3, 4, 5, 6);
        stairsAre("the last one alone", 6, 0, 0, 0, 0, 0, 6);
        for (int b = 0; b <= 11; b++) {
            int number = b;
            edges.at("BOARDS 0 .. 11, " + b).fresh().after(t -> Make.row(t, 2, 1, 2))
                .call(t -> t.stairs(number, 2, 2)).answers(3).board(b, STAIRS, 2, 1, 3);
        }
        for (int kind = PLAIN; kind <= PAIRED; kind++) {
            int number = kind;
            edges.at("in the place of KIND " + kind).after(t -> {
                oneOfEach(t);
                Make.row(t, 2, 3);
            }).call(t -> t.stairs(number, 4, 2)).answers(3).board(kind, STAIRS, 4, 7);
        }
    }

    private static void stairsRefused() {
        edges.under("Promise 8: stairs");
        for (int b : Edges.NO_BOARDS) {
            edges.at("BAD, BOARD " + b).after(t -> Make.row(t, 2, 1)).call(t -> t.stairs(b, 1, 2)).bad();
            edges.at("BAD ahead of NOTHING, BOARD " + b).call(t -> t.stairs(b, 1, 2)).bad();
            edges.at("BAD ahead of SIZE, BOARD " + b).after(t -> t.row(2, 0)).call(t -> t.stairs(b, 1, 2)).bad();
            edges.at("BAD ahead of UNLIKE, BOARD " + b).after(t -> Make.row(t, 2, 2))
                .call(t -> t.stairs(b, 1, 2)).bad();
        }
        for (int v : Edges.outside(1, 6)) {
            edges.at("BAD, columns " + v).after(t -> Make.row(t, 2, 0)).call(t -> t.stairs(4, v, 2)).bad();
            edges.at("BAD ahead of NOTHING, columns " + v).call(t -> t.stairs(4, v, 2)).bad();
            edges.at("BAD ahead of SIZE, columns " + v).after(t -> t.row(2, 7)).call(t -> t.stairs(4, v, 2)).bad();
            edges.at("BAD ahead of UNLIKE, columns " + v).after(t -> Make.row(t, 2, -1))
                .call(t -> t.stairs(4, v, 2)).bad();
        }
        for (int r : Edges.NO_ROWS) {
            edges.at("BAD, ROW " + r).after(BoardEdgesTest::oneOfEach).call(t -> t.stairs(1, 1, r)).bad();
        }
        edges.at("NOTHING").after(BoardEdgesTest::oneOfEach).call(t -> t.stairs(1, 1, 2)).finds(NOTHING);
        edges.at("SIZE, no rows").after(t -> {
            oneOfEach(t);
            t.row(2, 0);
        }).call(t -> t.stairs(1, 6, 2)).finds(SIZE);
        for (int h : new int[] {7, 8, 36}) {
            edges.at("SIZE, more than 6, " + h).after(t -> {
                oneOfEach(t);
                t.row(2, h);
            }).call(t -> t.stairs(1, 6, 2)).finds(SIZE);
            edges.at("SIZE ahead of UNLIKE, " + h).after(t -> Make.row(t, 2, all(h, -1)))
                .call(t -> t.stairs(1, 6, 2)).finds(SIZE);
        }
        for (int v = 1; v <= 6; v++) {
            int columns = v;
            for (int l : new int[] {-1, v + 1, 32, LEAST, MOST}) {
                edges.at("UNLIKE: one that is not 0 .. V, " + v + " columns, " + l).after(t -> {
                    oneOfEach(t);
                    Make.row(t, 2, l);
                }).call(t -> t.stairs(1, columns, 2)).finds(UNLIKE);
                edges.at("UNLIKE: one that is not 0 .. V, the last, " + v + " columns, " + l).after(t -> {
                    oneOfEach(t);
                    Make.row(t, 2, 0, 0, l);
                }).call(t -> t.stairs(1, columns, 2)).finds(UNLIKE);
            }
            edges.at("UNLIKE: less than the one before it, " + v + " columns").after(t -> {
                oneOfEach(t);
                Make.row(t, 2, columns, columns - 1);
            }).call(t -> t.stairs(1, columns, 2)).finds(UNLIKE);
        }
        edges.at("UNLIKE: less than the one before it, the last of six").after(t -> Make.row(t, 2, 1, 2, 3, 4, 5, 4))
            .call(t -> t.stairs(1, 6, 2)).finds(UNLIKE);
        edges.at("UNLIKE: less than the one before it, the second of six").after(t -> Make.row(t, 2, 1, 0, 3, 4, 5, 6))
            .call(t -> t.stairs(1, 6, 2)).finds(UNLIKE);
    }

    // ---- promise 9

    private static void ringIs(String words, int kind, int n, int set, int... cells) {
        edges.at(words + ", ring(" + n + ", " + set + ")").call(t -> t.ring(4, n, set)).answers(kind)
            .board(4, kind, n, cells);
    }

    private static void ring() {
        edges.under("Promise 9: ring");
        for (int n = 1; n <= 6; n++) {
            ringIs("n from 1 to 6, no DIFFERENCES", RING, n, 0, all(n, 0));
        }
        for (int n : new int[] {1, 3, 4, 5, 6}) {
            ringIs("n from 1 to 6, all DIFFERENCES", RING, n, (1 << n) - 1, all(n, (1 << n) - 1));
        }
        ringIs("PAIRED: n 2 at least, 2", PAIRED, 2, 3, 3, 3);
        ringIs("PAIRED: n 2 at least, not 1", RING, 1, 1, 1);
        ringIs("PAIRED", PAIRED, 3, 3, 3, 6, 5);
        ringIs("PAIRED", PAIRED, 4, 3, 3, 6, 12, 9);
        ringIs("PAIRED", PAIRED, 5, 3, 3, 6, 12, 24, 17);
        ringIs("PAIRED", PAIRED, 6, 3, 3, 6, 12, 24, 48, 33);
        ringIs("DIFFERENCE 0 without 1 is not PAIRED", RING, 2, 1, 1, 2);
        ringIs("DIFFERENCE 1 without 0 is not PAIRED", RING, 2, 2, 2, 1);
        ringIs("DIFFERENCES 0 and 1 alone: with 2 it is not PAIRED", RING, 3, 7, 7, 7, 7);
        ringIs("DIFFERENCES 0 and 1 alone: with 5 it is not PAIRED", RING, 6, 35, 35, 7, 14, 28, 56, 49);
        ringIs("neighbours that are not 0 and 1 are not PAIRED", RING, 3, 6, 6, 5, 3);
        for (int b = 0; b <= 11; b++) {
            int number = b;
            edges.at("BOARDS 0 .. 11, " + b).fresh().call(t -> t.ring(number, 2, 1)).answers(RING)
                .board(b, RING, 2, 1, 2);
        }
        for (int kind = PLAIN; kind <= PAIRED; kind++) {
            int number = kind;
            edges.at("in the place of KIND " + kind).after(BoardEdgesTest::oneOfEach)
                .call(t -> t.ring(number, 2, 3)).answers(PAIRED).board(kind, PAIRED, 2, 3, 3);
        }
    }

    private static void ringWraps() {
        edges.under("Promise 9: ring, j less i, modulo n");
        ringIs("the greatest DIFFERENCE", RING, 2, 2, 2, 1);
        ringIs("the greatest DIFFERENCE", RING, 3, 4, 4, 1, 2);
        ringIs("the greatest DIFFERENCE", RING, 4, 8, 8, 1, 2, 4);
        ringIs("the greatest DIFFERENCE", RING, 5, 16, 16, 1, 2, 4, 8);
        ringIs("the greatest DIFFERENCE", RING, 6, 32, 32, 1, 2, 4, 8, 16);
        ringIs("the least DIFFERENCE", RING, 6, 1, 1, 2, 4, 8, 16, 32);
        ringIs("one that wraps in the last row alone", RING, 6, 2, 2, 4, 8, 16, 32, 1);
        ringIs("half way round", RING, 6, 8, 8, 16, 32, 1, 2, 4);
    }

    private static void ringRefused() {
        edges.under("Promise 9: ring");
        for (int b : Edges.NO_BOARDS) {
            edges.at("BAD, BOARD " + b).call(t -> t.ring(b, 2, 1)).bad();
        }
        for (int n : Edges.outside(1, 6)) {
            edges.at("BAD, n " + n).after(BoardEdgesTest::oneOfEach).call(t -> t.ring(2, n, 0)).bad();
            edges.at("BAD, n " + n + " with a DIFFERENCE").after(BoardEdgesTest::oneOfEach)
                .call(t -> t.ring(2, n, 1)).bad();
        }
        for (int n = 1; n <= 6; n++) {
            int size = n;
            for (int set : new int[] {-1, 1 << n, (1 << n) + 1, (1 << (n + 1)) - 1, LEAST, MOST}) {
                edges.at("BAD, bits 0 to n - 1, of " + n + ": " + set).after(BoardEdgesTest::oneOfEach)
                    .call(t -> t.ring(2, size, set)).bad();
            }
        }
        edges.at("BAD, DIFFERENCES 0 and 1 of n 1").call(t -> t.ring(2, 1, 3)).bad();
    }

    // ---- promises 10 to 14

    private static void drop() {
        edges.under("Promise 10: drop");
        for (int kind = PLAIN; kind <= PAIRED; kind++) {
            int number = kind;
            edges.at("a BOARD of KIND " + kind).after(BoardEdgesTest::oneOfEach)
                .call(t -> t.drop(number)).answers(1).noBoard(kind);
        }
        edges.at("a BOARD without CELLS is there").after(t -> t.ring(5, 1, 0)).call(t -> t.drop(5)).answers(1).noBoard(5);
        edges.at("the last one").fresh().after(t -> t.ring(11, 6, 63)).call(t -> t.drop(11)).answers(1).noBoard(11);
        edges.at("NOTHING").call(t -> t.drop(5)).finds(NOTHING);
        edges.at("NOTHING, dropped before").after(t -> {
            t.ring(5, 2, 1);
            t.drop(5);
        }).call(t -> t.drop(5)).finds(NOTHING);
        for (int b : Edges.NO_BOARDS) {
            edges.at("BAD, BOARD " + b).call(t -> t.drop(b)).bad();
        }
        edges.at("one that is made after it has nothing of it").after(t -> {
            t.ring(5, 6, 63);
            t.drop(5);
        }).call(t -> t.ring(5, 2, 0)).answers(RING).board(5, RING, 2, 0, 0);
    }

    private static void told() {
        edges.under("Promise 11: told");
        int[][] each = {{0, 2, 3, 3}, {1, 2, 3, 3}, {2, 3, 3, 6}, {3, 3, 3, 6}};
        for (int b = 0; b < 4; b++) {
            for (int what = 0; what < 4; what++) {
                int number = b;
                int asked = what;
                edges.at(what + " of KIND " + b).after(BoardEdgesTest::oneOfEach)
                    .call(t -> t.told(number, asked)).answers(1).asked(each[b][what]);
            }
        }
        int[][] sizes = {{1, 1}, {1, 6}, {6, 1}, {6, 6}};
        for (int[] size : sizes) {
            String words = " of " + size[0] + " by " + size[1];
            edges.at("H" + words).after(t -> Make.filled(t, 4, size[0], size[1], 0))
                .call(t -> t.told(4, 1)).answers(1).asked(size[0]);
            edges.at("V" + words).after(t -> Make.filled(t, 4, size[0], size[1], 0))
                .call(t -> t.told(4, 2)).answers(1).asked(size[1]);
            edges.at("CELLS, none" + words).after(t -> Make.filled(t, 4, size[0], size[1], 0))
                .call(t -> t.told(4, 3)).answers(1).asked(0);
            edges.at("CELLS, all" + words).after(t -> Make.filled(t, 4, size[0], size[1], (1 << size[1]) - 1))
                .call(t -> t.told(4, 3)).answers(1).asked(size[0] * size[1]);
        }
        for (int what : Edges.outside(0, 3)) {
            edges.at("BAD, what " + what).after(BoardEdgesTest::oneOfEach).call(t -> t.told(0, what)).bad();
            edges.at("BAD ahead of NOTHING, what " + what).call(t -> t.told(0, what)).bad();
        }
        for (int b : Edges.NO_BOARDS) {
            edges.at("BAD, BOARD " + b).call(t -> t.told(b, 0)).bad();
        }
        for (int what = 0; what <= 3; what++) {
            int asked = what;
            edges.at("NOTHING, what " + what).call(t -> t.told(0, asked)).finds(NOTHING);
        }
    }

    private static void is() {
        edges.under("Promise 12: is");
        int[][] each = {{1, 0, 0, 0}, {1, 1, 0, 0}, {1, 0, 1, 0}, {1, 0, 1, 1}};
        for (int b = 0; b < 4; b++) {
            for (int kind = 0; kind < 4; kind++) {
                int number = b;
                int asked = kind;
                edges.at("KIND " + b + " is of KIND " + kind).after(BoardEdgesTest::oneOfEach)
                    .call(t -> t.is(number, asked)).answers(each[b][kind]);
            }
        }
        edges.at("a RING of 1 is not PAIRED").after(t -> t.ring(4, 1, 1)).call(t -> t.is(4, 3)).answers(0);
        edges.at("a RING of 2 is PAIRED").after(t -> t.ring(4, 2, 3)).call(t -> t.is(4, 3)).answers(1);
        for (int kind : Edges.outside(0, 3)) {
            edges.at("BAD: also the KIND, " + kind).after(BoardEdgesTest::oneOfEach).call(t -> t.is(0, kind)).bad();
            edges.at("BAD ahead of NOTHING, KIND " + kind).call(t -> t.is(0, kind)).bad();
        }
        for (int b : Edges.NO_BOARDS) {
            edges.at("BAD, BOARD " + b).call(t -> t.is(b, 0)).bad();
        }
        for (int kind = 0; kind <= 3; kind++) {
            int asked = kind;
            edges.at("NOTHING, KIND " + kind).call(t -> t.is(0, asked)).finds(NOTHING);
        }
    }

    private static void mark() {
        edges.under("Promise 13: mark");
        int[][] stairs = {{0, 0}, {1, 1}, {1, 0, 0, 6}, {2, 0, 1, 2}, {2, 1, 1, 2, 2}, {1, 6, 6, 6, 6, 6, 6},
            {6, 1, 2, 3, 4, 5, 6}, {5, 0, 2, 3, 4, 5, 6}, {0, 0, 0, 0, 0, 0, 0}};
        for (int[] one : stairs) {
            int[] lengths = Arrays.copyOfRange(one, 1, one.length);
            edges.at("STAIRS: how many unlike l(i) above 0, " + Arrays.toString(lengths))
                .after(t -> Make.stairs(t, 4, 6, lengths)).call(t -> t.mark(4, STAIRS)).answers(one[0]);
        }
        int[][] rings = {{1, 0}, {1, 1}, {2, 2}, {6, 0}, {6, 32}, {6, 63}, {6, 35}, {5, 30}};
        for (int[] one : rings) {
            edges.at("a RING: its DIFFERENCES, " + Arrays.toString(one)).after(t -> t.ring(4, one[0], one[1]))
                .call(t -> t.mark(4, RING)).answers(one[1]);
        }
        for (int n = 2; n <= 6; n++) {
            int size = n;
            edges.at("PAIRED, too, its DIFFERENCES, n " + n).after(t -> t.ring(4, size, 3))
                .call(t -> t.mark(4, RING)).answers(3);
            edges.at("a PAIRED one its n, " + n).after(t -> t.ring(4, size, 3)).call(t -> t.mark(4, PAIRED)).answers(n);
        }
        edges.at("BAD: also KIND 0").after(BoardEdgesTest::oneOfEach).call(t -> t.mark(0, 0)).bad();
        for (int kind : Edges.outside(0, 3)) {
            edges.at("BAD, KIND " + kind).after(BoardEdgesTest::oneOfEach).call(t -> t.mark(1, kind)).bad();
        }
        for (int kind : new int[] {-1, 0, 4}) {
            edges.at("BAD ahead of NOTHING, KIND " + kind).call(t -> t.mark(0, kind)).bad();
        }
        for (int b : Edges.NO_BOARDS) {
            edges.at("BAD, BOARD " + b).call(t -> t.mark(b, 1)).bad();
        }
        for (int kind = 1; kind <= 3; kind++) {
            int asked = kind;
            edges.at("NOTHING, KIND " + kind).call(t -> t.mark(0, asked)).finds(NOTHING);
        }
        int[][] unlike = {{0, 1}, {0, 2}, {0, 3}, {1, 2}, {1, 3}, {2, 1}, {2, 3}, {3, 1}};
        for (int[] one : unlike) {
            edges.at("UNLIKE, KIND " + one[0] + " as KIND " + one[1]).after(BoardEdgesTest::oneOfEach)
                .call(t -> t.mark(one[0], one[1])).finds(UNLIKE);
        }
        edges.at("UNLIKE, a RING of 1 is not PAIRED").after(t -> t.ring(4, 1, 1)).call(t -> t.mark(4, 3)).finds(UNLIKE);
        edges.at("UNLIKE, a BOARD that looks like STAIRS").after(t -> Make.board(t, 4, 2, 1, 3))
            .call(t -> t.mark(4, 1)).finds(UNLIKE);
    }

    private static void cell() {
        edges.under("Promise 14: cell");
        int[][] corners = {{0, 0, 1}, {0, 5, 0}, {5, 0, 0}, {5, 5, 1}};
        for (int[] one : corners) {
            edges.at("a corner of six by six, " + one[0] + ", " + one[1]).after(t -> t.ring(4, 6, 1))
                .call(t -> t.cell(4, one[0], one[1])).answers(one[2]);
        }
        edges.at("one by one, empty").after(t -> t.ring(4, 1, 0)).call(t -> t.cell(4, 0, 0)).answers(0);
        edges.at("one by one, full").after(t -> t.ring(4, 1, 1)).call(t -> t.cell(4, 0, 0)).answers(1);
        for (int b : Edges.NO_BOARDS) {
            edges.at("BAD, BOARD " + b).call(t -> t.cell(b, 0, 0)).bad();
            edges.at("BAD ahead of BEYOND, BOARD " + b).call(t -> t.cell(b, -1, 0)).bad();
        }
        edges.at("NOTHING").call(t -> t.cell(4, 0, 0)).finds(NOTHING);
        edges.at("NOTHING ahead of BEYOND").call(t -> t.cell(4, -1, 6)).finds(NOTHING);
        int[][] beyond = {{-1, 0}, {0, -1}, {2, 0}, {0, 3}, {2, 3}, {5, 0}, {0, 5}, {6, 0}, {0, 6}, {0, 32}, {32, 0},
            {LEAST, 0}, {0, LEAST}, {MOST, 0}, {0, MOST}};
        for (int[] one : beyond) {
            edges.at("BEYOND, " + one[0] + ", " + one[1] + " of 2 by 3").after(t -> Make.filled(t, 4, 2, 3, 7))
                .call(t -> t.cell(4, one[0], one[1])).finds(BEYOND);
        }
        edges.at("BEYOND, row 6 of six by six").after(t -> t.ring(4, 6, 63)).call(t -> t.cell(4, 6, 0)).finds(BEYOND);
        edges.at("BEYOND, column 6 of six by six").after(t -> t.ring(4, 6, 63)).call(t -> t.cell(4, 0, 6)).finds(BEYOND);
    }

    // ---- promise 15

    private static void set() {
        edges.under("Promise 15: set");
        edges.at("1 if it was, and becomes none").after(t -> Make.board(t, 4, 3, 5, 2))
            .call(t -> t.set(4, 0, 2, false)).answers(1).board(4, PLAIN, 3, 1, 2);
        edges.at("1 if it was, and stays").after(t -> Make.board(t, 4, 3, 5, 2))
            .call(t -> t.set(4, 0, 2, true)).answers(1);
        edges.at("0 if it was not, and becomes a CELL").after(t -> Make.board(t, 4, 3, 5, 2))
            .call(t -> t.set(4, 1, 2, true)).answers(0).board(4, PLAIN, 3, 5, 6);
        edges.at("0 if it was not, and stays none").after(t -> Make.board(t, 4, 3, 5, 2))
            .call(t -> t.set(4, 1, 2, false)).answers(0);
        edges.at("the only CELL").after(t -> Make.board(t, 4, 1, 1))
            .call(t -> t.set(4, 0, 0, false)).answers(1).board(4, PLAIN, 1, 0);
        edges.at("the only PLACE").after(t -> Make.board(t, 4, 1, 0))
            .call(t -> t.set(4, 0, 0, true)).answers(0).board(4, PLAIN, 1, 1);
        edges.at("the last PLACE of six by six, full").after(t -> Make.filled(t, 4, 6, 6, 63))
            .call(t -> t.set(4, 5, 5, false)).answers(1).board(4, PLAIN, 6, 63, 63, 63, 63, 63, 31);
        edges.at("the last PLACE of six by six, empty").after(t -> Make.filled(t, 4, 6, 6, 0))
            .call(t -> t.set(4, 5, 5, true)).answers(0).board(4, PLAIN, 6, 0, 0, 0, 0, 0, 32);
        edges.at("KIND 0 that was made of a RING").after(t -> {
            t.ring(4, 2, 1);
            t.turn(4, 4);
        }).call(t -> t.set(4, 0, 1, true)).answers(0).board(4, PLAIN, 2, 3, 2);
    }

    private static void setRefused() {
        edges.under("Promise 15: set");
        for (int b : Edges.NO_BOARDS) {
            edges.at("BAD, BOARD " + b).call(t -> t.set(b, 0, 0, true)).bad();
            edges.at("BAD ahead of BEYOND, BOARD " + b).call(t -> t.set(b, 6, 6, true)).bad();
        }
        edges.at("NOTHING").call(t -> t.set(4, 0, 0, true)).finds(NOTHING);
        edges.at("NOTHING ahead of BEYOND").call(t -> t.set(4, -1, 0, false)).finds(NOTHING);
        for (int kind = STAIRS; kind <= PAIRED; kind++) {
            int number = kind;
            edges.at("UNLIKE: KIND not 0, " + kind).after(BoardEdgesTest::oneOfEach)
                .call(t -> t.set(number, 0, 0, false)).finds(UNLIKE);
            edges.at("UNLIKE: KIND not 0, even if nothing would change, " + kind).after(BoardEdgesTest::oneOfEach)
                .call(t -> t.set(number, 0, 0, true)).finds(UNLIKE);
            edges.at("UNLIKE ahead of BEYOND, " + kind).after(BoardEdgesTest::oneOfEach)
                .call(t -> t.set(number, 6, 0, true)).finds(UNLIKE);
        }
        int[][] beyond = {{-1, 0}, {0, -1}, {2, 0}, {0, 3}, {2, 3}, {5, 0}, {0, 5}, {6, 0}, {0, 6}, {0, 32}, {32, 0},
            {LEAST, 0}, {0, LEAST}, {MOST, 0}, {0, MOST}};
        for (int[] one : beyond) {
            edges.at("BEYOND, " + one[0] + ", " + one[1] + " of 2 by 3").after(t -> Make.filled(t, 4, 2, 3, 5))
                .call(t -> t.set(4, one[0], one[1], true)).finds(BEYOND);
            edges.at("BEYOND, none, " + one[0] + ", " + one[1] + " of 2 by 3").after(t -> Make.filled(t, 4, 2, 3, 5))
                .call(t -> t.set(4, one[0], one[1], false)).finds(BEYOND);
        }
    }
}
