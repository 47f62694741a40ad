/** Promises 36 to 39: arrows and slants. */
public final class ArrowsTest {
    private static final int NOTHING = 1, UNLIKE = 3, SIZE = 5;
    private static final int NONE = TowerBoards.NONE;
    private static final Due due = new Due();

    public static void main(String[] args) {
        rounds();
        longRings();
        ringOf();
        slants();
        due.end();
    }

    private static TowerBoards fresh(String part) {
        due.part(part);
        return new TowerBoards();
    }

    private static void roundsAre(TowerBoards t, int b, int k, long... want) {
        for (int c = 0; c <= 6; c++) {
            due.is("rounds(" + b + ", " + k + ", " + c + ")", t.rounds(b, k, c), 1);
            due.is("ways() of " + c, t.ways(), c < want.length ? want[c] : 0);
        }
    }

    private static void rounds() {
        TowerBoards t = fresh("promise 36");
        t.ring(0, 3, 7);
        roundsAre(t, 0, 0, 1);
        roundsAre(t, 0, 1, 6, 3);
        roundsAre(t, 0, 2, 6, 9, 3);
        roundsAre(t, 0, 3, 0, 2, 3, 1);
        roundsAre(t, 0, 4);
        roundsAre(t, 0, 6);
        t.ring(1, 6, 1);
        roundsAre(t, 1, 4, 0, 0, 0, 0, 15);
        roundsAre(t, 1, 6, 0, 0, 0, 0, 0, 0, 1);
        t.ring(2, 6, 2);
        roundsAre(t, 2, 5, 6);
        roundsAre(t, 2, 6, 0, 1);
        t.ring(3, 6, 63);
        roundsAre(t, 3, 6, 0, 120, 274, 225, 85, 15, 1);
        Make.board(t, 4, 3, 2, 4, 0);
        roundsAre(t, 4, 2, 1);
        roundsAre(t, 4, 3);
        t.ring(5, 1, 0);
        roundsAre(t, 5, 0, 1);
        roundsAre(t, 5, 1);
        Make.board(t, 6, 3, 7, 7);
        due.finds(t, UNLIKE, "H less than V", () -> t.rounds(6, 0, 0));
        t.turn(6, 6);
        due.finds(t, UNLIKE, "V less than H", () -> t.rounds(6, 0, 0));
        due.badBoards(t, "rounds", b -> t.rounds(b, 0, 0));
        due.badBeyond(t, "k", 0, 6, k -> t.rounds(6, k, 0));
        due.badBeyond(t, "c", 0, 6, c -> t.rounds(9, 0, c));
        due.finds(t, NOTHING, "of a missing board", () -> t.rounds(9, 0, 0));
    }

    private static void longAre(TowerBoards t, int b, long... want) {
        for (int m = 1; m <= 6; m++) {
            due.is("longRings(" + b + ", " + m + ")", t.longRings(b, m), 1);
            due.is("ways() of " + m, t.ways(), m <= want.length ? want[m - 1] : 0);
        }
    }

    private static void longRings() {
        TowerBoards t = fresh("promise 37");
        t.ring(0, 3, 7);
        longAre(t, 0, 6, 2, 2);
        t.ring(1, 4, 15);
        longAre(t, 1, 24, 9, 6, 6);
        t.ring(2, 6, 63);
        longAre(t, 2, 720, 265, 160, 120, 120, 120);
        t.ring(3, 6, 4);
        longAre(t, 3, 1, 1, 1);
        t.ring(4, 6, 0);
        longAre(t, 4);
        Make.board(t, 6, 3, 7, 7);
        due.finds(t, UNLIKE, "H less than V", () -> t.longRings(6, 1));
        t.turn(6, 6);
        due.finds(t, UNLIKE, "V less than H", () -> t.longRings(6, 1));
        due.badBoards(t, "longRings", b -> t.longRings(b, 1));
        due.badBeyond(t, "m", 1, 6, m -> t.longRings(6, m));
        due.badBeyond(t, "m, board missing", 1, 6, m -> t.longRings(9, m));
        due.finds(t, NOTHING, "of a missing board", () -> t.longRings(9, 1));
    }

    private static void ringsAre(TowerBoards t, int[] stand, int... want) {
        Make.row(t, 0, stand);
        String what = "rings of " + java.util.Arrays.toString(stand);
        for (int c = 0; c < want.length; c++) {
            due.is(what + ", ring " + c, t.ringOf(0, 0, c), Integer.bitCount(want[c]));
            due.is(what + ", ring " + c + ", asked()", t.asked(), want[c]);
        }
        for (int c : new int[] {want.length, 6, 7, -1, Integer.MIN_VALUE, Integer.MAX_VALUE}) {
            due.leaves(t, what + ", ring " + c, NONE, () -> t.ringOf(0, 0, c));
        }
    }

    private static void ringOf() {
        TowerBoards t = fresh("promise 38");
        t.ring(0, 4, 15);
        ringsAre(t, new int[] {1, 0, 3, 2}, 3, 12);
        ringsAre(t, new int[] {2, 3, 0, 1}, 5, 10);
        ringsAre(t, new int[] {3, 2, 1, 0}, 9, 6);
        ringsAre(t, new int[] {NONE, 2, 1, 3}, 6, 8);
        ringsAre(t, new int[] {1, 2, 3, NONE});
        ringsAre(t, new int[] {1, 2, 3, 0}, 15);
        ringsAre(t, new int[] {0, 1, 2, 3}, 1, 2, 4, 8);
        ringsAre(t, new int[] {2, 1, NONE, NONE}, 2);
        ringsAre(t, new int[] {NONE, NONE, NONE, NONE});
        ringsAre(t, new int[] {NONE, 3, 0, 1}, 10);
        t.ring(1, 2, 2);
        Make.board(t, 2, 3, 7, 7);
        Make.row(t, 1, 1, 0);
        due.finds(t, UNLIKE, "a stand, not n by n", () -> t.ringOf(2, 1, 0));
        Make.row(t, 1, 0, 0, 0);
        due.finds(t, SIZE, "too long, not n by n", () -> t.ringOf(2, 1, 0));
        due.finds(t, SIZE, "too long", () -> t.ringOf(1, 1, 0));
        t.row(1, 1);
        due.finds(t, SIZE, "too short", () -> t.ringOf(1, 1, 0));
        for (int[] none : new int[][] {{0, NONE}, {1, 1}, {2, 0}, {1, -1}, {1, 33}, {NONE - 1, 0}}) {
            Make.row(t, 1, none);
            due.finds(t, UNLIKE, "no stand " + none[0] + " " + none[1], () -> t.ringOf(1, 1, 0));
        }
        due.badBoards(t, "ringOf", b -> t.ringOf(b, 5, 0));
        due.badRows(t, "ringOf", r -> t.ringOf(9, r, 0));
        due.finds(t, NOTHING, "a missing board", () -> t.ringOf(9, 1, 0));
        due.finds(t, NOTHING, "a missing row", () -> t.ringOf(1, 5, 0));
    }

    private static void slantsAre(TowerBoards t, int b, long... want) {
        for (int k = 0; k <= 11; k++) {
            due.is("slants(" + b + ", " + k + ")", t.slants(b, k), 1);
            due.is("ways() of " + k, t.ways(), k < want.length ? want[k] : 0);
        }
    }

    private static void slants() {
        TowerBoards t = fresh("promise 39");
        t.ring(0, 1, 1);
        slantsAre(t, 0, 1, 1);
        t.ring(1, 2, 3);
        slantsAre(t, 1, 1, 4, 4);
        t.ring(2, 3, 7);
        slantsAre(t, 2, 1, 9, 26, 26, 8);
        t.ring(3, 4, 15);
        slantsAre(t, 3, 1, 16, 92, 232, 260, 112, 16);
        t.ring(4, 6, 63);
        slantsAre(t, 4, 1, 36, 520, 3896, 16428, 39680, 53744, 38368, 12944, 1600, 64);
        t.ring(5, 6, 1);
        slantsAre(t, 5, 1, 6);
        t.ring(6, 6, 0);
        slantsAre(t, 6, 1);
        Make.board(t, 7, 6, 63);
        slantsAre(t, 7, 1, 6, 15, 20, 15, 6, 1);
        t.turn(7, 7);
        slantsAre(t, 7, 1, 6, 15, 20, 15, 6, 1);
        Make.board(t, 8, 6, 32, 0, 0, 0, 0, 1);
        slantsAre(t, 8, 1, 2);
        due.badBoards(t, "slants", b -> t.slants(b, 0));
        due.badBeyond(t, "k", 0, 11, k -> t.slants(0, k));
        due.badBeyond(t, "k, board missing", 0, 11, k -> t.slants(9, k));
        due.finds(t, NOTHING, "of a missing board", () -> t.slants(9, 0));
    }
}
