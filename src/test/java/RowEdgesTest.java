import java.util.Arrays;

/** The boundaries of promises 1 to 6 and of the ROWS, each a case of its own. */
public final class RowEdgesTest {
    private static final int NOTHING = Edges.NOTHING, BEYOND = Edges.BEYOND, NOUGHT = Edges.NOUGHT, SIZE = Edges.SIZE;
    private static final int LEAST = Edges.LEAST, MOST = Edges.MOST;
    private static final Edges edges = new Edges();

    public static void main(String[] args) {
        newObject();
        row();
        rowRefused();
        lay();
        tear();
        copy();
        copyOntoItself();
        copyBeyond();
        copyRefused();
        mean();
        edges.end();
    }

    private static int[] all(int n, int value) {
        int[] values = new int[n];
        Arrays.fill(values, value);
        return values;
    }

    private static void newObject() {
        edges.under("Promise 1: A new object, no ROWS, BOARDS");
        for (int what = 0; what <= 4; what++) {
            int asked = what;
            edges.at("count(" + what + ")").fresh().call(t -> t.count(asked)).answers(0);
        }
        for (int r = 0; r <= 7; r++) {
            int number = r;
            edges.at("ROW " + r).fresh().call(t -> t.tear(number)).finds(NOTHING);
        }
        for (int b = 0; b <= 11; b++) {
            int number = b;
            edges.at("BOARD " + b).fresh().call(t -> t.drop(number)).finds(NOTHING);
        }
        edges.at("a second object has what is its own alone").fresh().call(t -> {
            TowerBoards other = new TowerBoards();
            other.row(0, 36);
            other.ring(0, 6, 63);
            return t.count(0) + t.count(1) + other.count(0) + other.count(1);
        }).answers(2);
    }

    private static void row() {
        edges.under("Promise 2: row");
        for (int n = 0; n <= 36; n++) {
            int size = n;
            edges.at("n ints 0: n, " + n).call(t -> t.row(3, size)).answers(n).row(3, new int[n]);
        }
        for (int r = 0; r <= 7; r++) {
            int number = r;
            edges.at("ROWS 0 .. 7, " + r).call(t -> t.row(number, 2)).answers(2).row(r, 0, 0);
        }
        edges.at("of a ROW that is there, ints 0 again")
            .after(t -> Make.row(t, 0, 1, 2, 3)).call(t -> t.row(0, 3)).answers(3).row(0, 0, 0, 0);
        edges.at("of a ROW that is there, fewer")
            .after(t -> Make.row(t, 0, 1, 2, 3)).call(t -> t.row(0, 1)).answers(1).row(0, 0);
        edges.at("of a ROW that is there, none")
            .after(t -> Make.row(t, 0, 1, 2, 3)).call(t -> t.row(0, 0)).answers(0).row(0);
        edges.at("of a ROW that is there, more")
            .after(t -> Make.row(t, 0, 1, 2, 3)).call(t -> t.row(0, 36)).answers(36).row(0, new int[36]);
        edges.at("what a longer ROW had does not come back").after(t -> {
            Make.row(t, 0, 1, 2, 3);
            t.row(0, 1);
        }).call(t -> t.row(0, 3)).answers(3).row(0, 0, 0, 0);
        edges.at("what a ROW had before it was torn does not come back").after(t -> {
            Make.row(t, 0, 1, 2, 3);
            t.tear(0);
        }).call(t -> t.row(0, 3)).answers(3).row(0, 0, 0, 0);
        edges.at("eight ROWS of 36 at once").fresh().after(t -> {
            for (int r = 0; r < 7; r++) {
                Make.row(t, r, all(36, r + 1));
            }
        }).call(t -> t.row(7, 36)).answers(36).row(7, new int[36]);
    }

    private static void rowRefused() {
        edges.under("Promise 2: row");
        for (int r : Edges.NO_ROWS) {
            edges.at("BAD, ROW " + r).call(t -> t.row(r, 2)).bad();
            edges.at("BAD ahead of SIZE, ROW " + r).call(t -> t.row(r, -1)).bad();
        }
        for (int n : new int[] {37, 38, 64, MOST}) {
            edges.at("BAD: n above 36, " + n).call(t -> t.row(0, n)).bad();
            edges.at("BAD: n above 36, of a ROW that is there, " + n)
                .after(t -> Make.row(t, 0, 5, 6)).call(t -> t.row(0, n)).bad();
        }
        for (int n : new int[] {-1, -2, -36, LEAST}) {
            edges.at("SIZE: below 0, " + n).call(t -> t.row(0, n)).finds(SIZE);
            edges.at("SIZE: below 0, of a ROW that is there, " + n)
                .after(t -> Make.row(t, 0, 5, 6)).call(t -> t.row(0, n)).finds(SIZE);
        }
    }

    private static void lay() {
        edges.under("Promise 3: lay");
        edges.at("the first place").after(t -> Make.row(t, 2, 7, 8, 9))
            .call(t -> t.lay(2, 0, 5)).answers(1).asked(7).row(2, 5, 8, 9);
        edges.at("the last place").after(t -> Make.row(t, 2, 7, 8, 9))
            .call(t -> t.lay(2, 2, 5)).answers(1).asked(9).row(2, 7, 8, 5);
        edges.at("the only place").after(t -> Make.row(t, 2, 7))
            .call(t -> t.lay(2, 0, 5)).answers(1).asked(7).row(2, 5);
        int[] last = new int[36];
        last[35] = -1;
        edges.at("place 35 of 36").after(t -> t.row(2, 36))
            .call(t -> t.lay(2, 35, -1)).answers(1).asked(0).row(2, last);
        edges.at("the least int").after(t -> Make.row(t, 2, 7))
            .call(t -> t.lay(2, 0, LEAST)).answers(1).asked(7).row(2, LEAST);
        edges.at("the greatest int").after(t -> Make.row(t, 2, LEAST))
            .call(t -> t.lay(2, 0, MOST)).answers(1).asked(LEAST).row(2, MOST);
        edges.at("what it was already").after(t -> Make.row(t, 2, MOST))
            .call(t -> t.lay(2, 0, MOST)).answers(1).asked(MOST);
        for (int r : Edges.NO_ROWS) {
            edges.at("BAD, ROW " + r).call(t -> t.lay(r, 0, 1)).bad();
            edges.at("BAD ahead of BEYOND, ROW " + r).call(t -> t.lay(r, -1, 1)).bad();
        }
        edges.at("NOTHING").call(t -> t.lay(2, 0, 1)).finds(NOTHING);
        edges.at("NOTHING ahead of BEYOND").call(t -> t.lay(2, -1, 1)).finds(NOTHING);
        edges.at("NOTHING ahead of BEYOND, above").call(t -> t.lay(2, 36, 1)).finds(NOTHING);
        for (int i : new int[] {-1, 3, 4, 35, 36, LEAST, MOST}) {
            edges.at("BEYOND, place " + i + " of 3").after(t -> Make.row(t, 2, 7, 8, 9))
                .call(t -> t.lay(2, i, 1)).finds(BEYOND);
        }
        for (int i : new int[] {-1, 0, 1}) {
            edges.at("BEYOND, place " + i + " of none").after(t -> t.row(2, 0))
                .call(t -> t.lay(2, i, 1)).finds(BEYOND);
        }
        for (int i : new int[] {-1, 36, 37}) {
            edges.at("BEYOND, place " + i + " of 36").after(t -> t.row(2, 36))
                .call(t -> t.lay(2, i, 1)).finds(BEYOND);
        }
        edges.at("BEYOND, a place that a longer ROW had").after(t -> {
            t.row(2, 9);
            t.row(2, 3);
        }).call(t -> t.lay(2, 3, 1)).finds(BEYOND);
    }

    private static void tear() {
        edges.under("Promise 4: tear");
        edges.at("a ROW").after(t -> Make.row(t, 2, 7, 8)).call(t -> t.tear(2)).answers(1).noRow(2);
        edges.at("a ROW of no ints is there").after(t -> t.row(2, 0)).call(t -> t.tear(2)).answers(1).noRow(2);
        edges.at("a ROW of 36").after(t -> t.row(2, 36)).call(t -> t.tear(2)).answers(1).noRow(2);
        edges.at("the first one, the others stay").after(t -> {
            t.row(0, 1);
            t.row(1, 1);
        }).call(t -> t.tear(0)).answers(1).noRow(0);
        edges.at("the last one").fresh().after(t -> t.row(7, 1)).call(t -> t.tear(7)).answers(1).noRow(7);
        edges.at("a BOARD that was made of it stays").after(t -> {
            Make.row(t, 0, 1, 2);
            t.board(0, 2, 0);
        }).call(t -> t.tear(0)).answers(1).noRow(0);
        edges.at("NOTHING").call(t -> t.tear(2)).finds(NOTHING);
        edges.at("NOTHING, torn before").after(t -> {
            t.row(2, 1);
            t.tear(2);
        }).call(t -> t.tear(2)).finds(NOTHING);
        for (int r : Edges.NO_ROWS) {
            edges.at("BAD, ROW " + r).call(t -> t.tear(r)).bad();
        }
    }

    private static void twoRows(TowerBoards t) {
        Make.row(t, 0, 1, 2, 3, 4, 5);
        Make.row(t, 1, 7, 8, 9);
    }

    private static void copy() {
        edges.under("Promise 5: copy");
        edges.at("from the first place").after(RowEdgesTest::twoRows)
            .call(t -> t.copy(0, 0, 1, 0, 2)).answers(1).row(1, 1, 2, 9);
        edges.at("up to the last places").after(RowEdgesTest::twoRows)
            .call(t -> t.copy(0, 3, 1, 1, 2)).answers(1).row(1, 7, 4, 5);
        edges.at("one place").after(RowEdgesTest::twoRows)
            .call(t -> t.copy(0, 4, 1, 2, 1)).answers(1).row(1, 7, 8, 5);
        edges.at("all places of the shorter one").after(RowEdgesTest::twoRows)
            .call(t -> t.copy(1, 0, 0, 2, 3)).answers(1).row(0, 1, 2, 7, 8, 9);
        edges.at("all 36").after(t -> {
            Make.row(t, 0, all(36, LEAST));
            t.row(1, 36);
        }).call(t -> t.copy(0, 0, 1, 0, 36)).answers(1).row(1, all(36, LEAST));
        edges.at("none").after(RowEdgesTest::twoRows).call(t -> t.copy(0, 0, 1, 0, 0)).answers(1);
        edges.at("none, behind both last places").after(RowEdgesTest::twoRows)
            .call(t -> t.copy(0, 5, 1, 3, 0)).answers(1);
        edges.at("none of none").after(t -> {
            t.row(0, 0);
            t.row(1, 0);
        }).call(t -> t.copy(0, 0, 1, 0, 0)).answers(1);
        edges.at("none behind 36").after(t -> {
            t.row(0, 36);
            t.row(1, 36);
        }).call(t -> t.copy(0, 36, 1, 36, 0)).answers(1);
    }

    private static void copyOntoItself() {
        edges.under("Promise 5: copy, perhaps itself, as if taken ahead");
        edges.at("one place up").after(RowEdgesTest::twoRows)
            .call(t -> t.copy(0, 0, 0, 1, 4)).answers(1).row(0, 1, 1, 2, 3, 4);
        edges.at("one place down").after(RowEdgesTest::twoRows)
            .call(t -> t.copy(0, 1, 0, 0, 4)).answers(1).row(0, 2, 3, 4, 5, 5);
        edges.at("two places up").after(RowEdgesTest::twoRows)
            .call(t -> t.copy(0, 0, 0, 2, 3)).answers(1).row(0, 1, 2, 1, 2, 3);
        edges.at("two places down").after(RowEdgesTest::twoRows)
            .call(t -> t.copy(0, 2, 0, 0, 3)).answers(1).row(0, 3, 4, 5, 4, 5);
        edges.at("all of it").after(RowEdgesTest::twoRows).call(t -> t.copy(0, 0, 0, 0, 5)).answers(1);
        edges.at("none of it").after(RowEdgesTest::twoRows).call(t -> t.copy(0, 5, 0, 5, 0)).answers(1);
        edges.at("BEYOND, one too many").after(RowEdgesTest::twoRows)
            .call(t -> t.copy(0, 0, 0, 1, 5)).finds(BEYOND);
        edges.at("NOTHING").call(t -> t.copy(0, 0, 0, 0, 0)).finds(NOTHING);
    }

    private static void copyBeyond() {
        edges.under("Promise 5: copy, BEYOND, not so many there");
        int[][] beyond = {
            {0, 0, 4}, {0, 1, 3}, {0, 2, 2}, {0, 3, 1}, {3, 0, 3}, {4, 0, 2}, {5, 0, 1}, {0, 0, 6}, {0, 0, 36},
            {0, 0, MOST}, {1, 0, MOST}, {0, 1, MOST}, {5, 3, MOST}};
        for (int[] p : beyond) {
            edges.at(p[2] + " places from " + p[0] + " to " + p[1]).after(RowEdgesTest::twoRows)
                .call(t -> t.copy(0, p[0], 1, p[1], p[2])).finds(BEYOND);
        }
        for (int n : new int[] {0, 1, MOST}) {
            for (int i : new int[] {-1, 6, 36, 37, LEAST, MOST}) {
                edges.at("a place above its size, or below 0, from " + i + ", " + n).after(RowEdgesTest::twoRows)
                    .call(t -> t.copy(0, i, 1, 0, n)).finds(BEYOND);
            }
            for (int j : new int[] {-1, 4, 36, 37, LEAST, MOST}) {
                edges.at("a place above its size, or below 0, to " + j + ", " + n).after(RowEdgesTest::twoRows)
                    .call(t -> t.copy(0, 0, 1, j, n)).finds(BEYOND);
            }
        }
        edges.at("one of none").after(t -> {
            t.row(0, 0);
            t.row(1, 1);
        }).call(t -> t.copy(0, 0, 1, 0, 1)).finds(BEYOND);
        edges.at("one to none").after(t -> {
            t.row(0, 0);
            t.row(1, 1);
        }).call(t -> t.copy(1, 0, 0, 0, 1)).finds(BEYOND);
        edges.at("37 of 36").after(t -> {
            t.row(0, 36);
            t.row(1, 36);
        }).call(t -> t.copy(0, 0, 1, 0, 37)).finds(BEYOND);
    }

    private static void copyRefused() {
        edges.under("Promise 5: copy");
        for (int r : Edges.NO_ROWS) {
            edges.at("BAD, from ROW " + r).after(RowEdgesTest::twoRows).call(t -> t.copy(r, 0, 1, 0, 1)).bad();
            edges.at("BAD, to ROW " + r).after(RowEdgesTest::twoRows).call(t -> t.copy(0, 0, r, 0, 1)).bad();
            edges.at("BAD ahead of SIZE, from ROW " + r).call(t -> t.copy(r, 0, 1, 0, -1)).bad();
            edges.at("BAD ahead of SIZE, to ROW " + r).call(t -> t.copy(0, 0, r, 0, -1)).bad();
            edges.at("BAD ahead of NOTHING, from ROW " + r).call(t -> t.copy(r, 0, 1, 0, 0)).bad();
            edges.at("BAD ahead of NOTHING, to ROW " + r).call(t -> t.copy(0, 0, r, 0, 0)).bad();
            edges.at("BAD ahead of BEYOND, from ROW " + r).after(RowEdgesTest::twoRows)
                .call(t -> t.copy(r, 0, 1, 9, 1)).bad();
            edges.at("BAD ahead of BEYOND, to ROW " + r).after(RowEdgesTest::twoRows)
                .call(t -> t.copy(0, 9, r, 0, 1)).bad();
        }
        for (int n : new int[] {-1, -36, LEAST}) {
            edges.at("SIZE: n below 0, " + n).after(RowEdgesTest::twoRows)
                .call(t -> t.copy(0, 0, 1, 0, n)).finds(SIZE);
            edges.at("SIZE ahead of NOTHING, " + n).call(t -> t.copy(0, 0, 1, 0, n)).finds(SIZE);
            edges.at("SIZE ahead of BEYOND, from, " + n).after(RowEdgesTest::twoRows)
                .call(t -> t.copy(0, 6, 1, 0, n)).finds(SIZE);
            edges.at("SIZE ahead of BEYOND, to, " + n).after(RowEdgesTest::twoRows)
                .call(t -> t.copy(0, 0, 1, -1, n)).finds(SIZE);
        }
        edges.at("NOTHING: either, the first").after(RowEdgesTest::twoRows)
            .call(t -> t.copy(5, 0, 1, 0, 1)).finds(NOTHING);
        edges.at("NOTHING: either, the second").after(RowEdgesTest::twoRows)
            .call(t -> t.copy(0, 0, 5, 0, 1)).finds(NOTHING);
        edges.at("NOTHING: either, both").call(t -> t.copy(4, 0, 5, 0, 1)).finds(NOTHING);
        edges.at("NOTHING, none of a missing one").after(RowEdgesTest::twoRows)
            .call(t -> t.copy(5, 0, 1, 0, 0)).finds(NOTHING);
        edges.at("NOTHING ahead of BEYOND, the first").after(RowEdgesTest::twoRows)
            .call(t -> t.copy(5, 0, 1, 4, 1)).finds(NOTHING);
        edges.at("NOTHING ahead of BEYOND, the second").after(RowEdgesTest::twoRows)
            .call(t -> t.copy(0, -1, 5, 0, 1)).finds(NOTHING);
    }

    private static void meanIs(int want, int... values) {
        edges.at("the mean, cut, of " + Arrays.toString(values)).after(t -> Make.row(t, 4, values))
            .call(t -> t.mean(4)).answers(1).asked(want);
    }

    private static void mean() {
        edges.under("Promise 6: mean");
        meanIs(0, 0);
        meanIs(-5, -5);
        meanIs(MOST, MOST);
        meanIs(LEAST, LEAST);
        meanIs(0, 0, 1);
        meanIs(0, 0, -1);
        meanIs(1, 1, 2);
        meanIs(-1, -1, -2);
        meanIs(0, 2, -1, 1);
        meanIs(0, -2, 1, -1);
        meanIs(MOST, MOST, MOST);
        meanIs(LEAST, LEAST, LEAST);
        meanIs(MOST - 1, MOST, MOST - 1);
        meanIs(LEAST + 1, LEAST, LEAST + 1);
        meanIs(0, LEAST, MOST);
        meanIs(MOST, all(36, MOST));
        meanIs(LEAST, all(36, LEAST));
        int[] justOne = new int[36];
        justOne[35] = 36;
        meanIs(1, justOne);
        int[] justNone = new int[36];
        justNone[0] = 35;
        meanIs(0, justNone);
        edges.at("NOUGHT").after(t -> t.row(4, 0)).call(t -> t.mean(4)).finds(NOUGHT);
        edges.at("NOTHING").call(t -> t.mean(4)).finds(NOTHING);
        edges.at("NOTHING, torn").after(t -> {
            Make.row(t, 4, 5);
            t.tear(4);
        }).call(t -> t.mean(4)).finds(NOTHING);
        for (int r : Edges.NO_ROWS) {
            edges.at("BAD, ROW " + r).call(t -> t.mean(r)).bad();
        }
    }
}
