/** The boundaries of promises 16 to 19, BOARDS that are made of BOARDS, each a case of its own. */
public final class MadeOfBoardsEdgesTest {
    private static final int NOTHING = Edges.NOTHING, BEYOND = Edges.BEYOND, SIZE = Edges.SIZE;
    private static final int LEAST = Edges.LEAST, MOST = Edges.MOST;
    private static final Edges edges = new Edges();

    public static void main(String[] args) {
        other();
        turn();
        without();
        withoutRefused();
        join();
        joinRefused();
        edges.end();
    }

    /** A call that makes a BOARD of another one. */
    interface FromTo {
        long of(TowerBoards t, int b, int to);
    }

    /** What the calls with a BOARD to read and a BOARD to make are refused for, all alike. */
    private static void refusedAlike(FromTo call) {
        for (int b : Edges.NO_BOARDS) {
            edges.at("BAD, from BOARD " + b).after(t -> t.ring(4, 3, 3)).call(t -> call.of(t, b, 4)).bad();
            edges.at("BAD, to BOARD " + b).after(t -> t.ring(4, 3, 3)).call(t -> call.of(t, 4, b)).bad();
            edges.at("BAD ahead of NOTHING, to BOARD " + b).call(t -> call.of(t, 4, b)).bad();
        }
        edges.at("NOTHING").after(t -> t.ring(4, 3, 3)).call(t -> call.of(t, 5, 4)).finds(NOTHING);
        edges.at("NOTHING, to a missing one").call(t -> call.of(t, 5, 4)).finds(NOTHING);
        edges.at("NOTHING, to itself").call(t -> call.of(t, 5, 5)).finds(NOTHING);
        edges.at("NOTHING, dropped").after(t -> {
            t.ring(5, 3, 3);
            t.drop(5);
        }).call(t -> call.of(t, 5, 4)).finds(NOTHING);
    }

    private static void other() {
        edges.under("Promise 16: other");
        edges.at("one by one, empty").after(t -> t.ring(4, 1, 0)).call(t -> t.other(4, 5)).answers(1).board(5, 0, 1, 1);
        edges.at("one by one, full").after(t -> t.ring(4, 1, 1)).call(t -> t.other(4, 5)).answers(0).board(5, 0, 1, 0);
        edges.at("six by six, empty").after(t -> t.ring(4, 6, 0))
            .call(t -> t.other(4, 5)).answers(36).board(5, 0, 6, 63, 63, 63, 63, 63, 63);
        edges.at("six by six, full").after(t -> t.ring(4, 6, 63))
            .call(t -> t.other(4, 5)).answers(0).board(5, 0, 6, 0, 0, 0, 0, 0, 0);
        edges.at("PLACES beyond V are none").after(t -> Make.board(t, 4, 3, 5, 0))
            .call(t -> t.other(4, 5)).answers(4).board(5, 0, 3, 2, 7);
        edges.at("perhaps itself").after(t -> Make.board(t, 4, 3, 5, 0))
            .call(t -> t.other(4, 4)).answers(4).board(4, 0, 3, 2, 7);
        edges.at("KIND 0, of STAIRS").after(t -> Make.stairs(t, 4, 2, 0, 1))
            .call(t -> t.other(4, 4)).answers(3).board(4, 0, 2, 3, 2);
        edges.at("KIND 0, of a RING whose others are a RING's").after(t -> t.ring(4, 3, 1))
            .call(t -> t.other(4, 5)).answers(6).board(5, 0, 3, 6, 5, 3);
        edges.at("KIND 0, of a PAIRED one").after(t -> t.ring(4, 3, 3))
            .call(t -> t.other(4, 4)).answers(3).board(4, 0, 3, 4, 1, 2);
        edges.at("anew, in the place of a greater one").after(t -> {
            t.ring(4, 2, 0);
            t.ring(5, 6, 63);
        }).call(t -> t.other(4, 5)).answers(4).board(5, 0, 2, 3, 3);
        edges.at("to the first one").after(t -> t.ring(4, 1, 0)).call(t -> t.other(4, 0)).answers(1).board(0, 0, 1, 1);
        edges.at("from the first one to the last one").fresh().after(t -> t.ring(0, 1, 0))
            .call(t -> t.other(0, 11)).answers(1).board(11, 0, 1, 1);
        refusedAlike(TowerBoards::other);
    }

    private static void turn() {
        edges.under("Promise 17: turn");
        edges.at("one by one, empty").after(t -> t.ring(4, 1, 0)).call(t -> t.turn(4, 5)).answers(0).board(5, 0, 1, 0);
        edges.at("one by one, full").after(t -> t.ring(4, 1, 1)).call(t -> t.turn(4, 5)).answers(1).board(5, 0, 1, 1);
        edges.at("one by six").after(t -> Make.board(t, 4, 6, 33))
            .call(t -> t.turn(4, 5)).answers(2).board(5, 0, 1, 1, 0, 0, 0, 0, 1);
        edges.at("six by one").after(t -> Make.board(t, 4, 1, 1, 0, 0, 0, 0, 1))
            .call(t -> t.turn(4, 5)).answers(2).board(5, 0, 6, 33);
        edges.at("one by six, perhaps itself").after(t -> Make.board(t, 4, 6, 62))
            .call(t -> t.turn(4, 4)).answers(5).board(4, 0, 1, 0, 1, 1, 1, 1, 1);
        edges.at("six by one, perhaps itself").after(t -> Make.board(t, 4, 1, 0, 1, 1, 1, 1, 1))
            .call(t -> t.turn(4, 4)).answers(5).board(4, 0, 6, 62);
        edges.at("six by six, full").after(t -> t.ring(4, 6, 63))
            .call(t -> t.turn(4, 4)).answers(36).board(4, 0, 6, 63, 63, 63, 63, 63, 63);
        edges.at("six by six, a corner").after(t -> Make.board(t, 4, 6, 32, 0, 0, 0, 0, 0))
            .call(t -> t.turn(4, 4)).answers(1).board(4, 0, 6, 0, 0, 0, 0, 0, 1);
        edges.at("KIND 0, of STAIRS").after(t -> Make.stairs(t, 4, 2, 1, 2))
            .call(t -> t.turn(4, 4)).answers(3).board(4, 0, 2, 3, 2);
        edges.at("KIND 0, of a RING that stays as it is").after(t -> t.ring(4, 4, 1))
            .call(t -> t.turn(4, 4)).answers(4).board(4, 0, 4, 1, 2, 4, 8);
        edges.at("KIND 0, of a PAIRED one").after(t -> t.ring(4, 2, 3))
            .call(t -> t.turn(4, 5)).answers(4).board(5, 0, 2, 3, 3);
        edges.at("anew, in the place of a greater one").after(t -> {
            Make.board(t, 4, 2, 2);
            t.ring(5, 6, 63);
        }).call(t -> t.turn(4, 5)).answers(1).board(5, 0, 1, 0, 1);
        refusedAlike(TowerBoards::turn);
    }

    private static void without() {
        edges.under("Promise 18: without");
        int[][] twos = {{0, 0, 1}, {0, 1, 0}, {1, 0, 0}, {1, 1, 1}};
        for (int[] one : twos) {
            edges.at("two by two, " + one[0] + ", " + one[1]).after(t -> Make.board(t, 4, 2, 1, 2))
                .call(t -> t.without(4, one[0], one[1], 5)).answers(one[2]).board(5, 0, 1, one[2]);
        }
        edges.at("six by six, the first row and column").after(t -> t.ring(4, 6, 1))
            .call(t -> t.without(4, 0, 0, 5)).answers(5).board(5, 0, 5, 1, 2, 4, 8, 16);
        edges.at("six by six, the last row and column").after(t -> t.ring(4, 6, 1))
            .call(t -> t.without(4, 5, 5, 5)).answers(5).board(5, 0, 5, 1, 2, 4, 8, 16);
        edges.at("six by six, the last row and the first column").after(t -> t.ring(4, 6, 1))
            .call(t -> t.without(4, 5, 0, 5)).answers(4).board(5, 0, 5, 0, 1, 2, 4, 8);
        edges.at("six by six, the first row and the last column").after(t -> t.ring(4, 6, 1))
            .call(t -> t.without(4, 0, 5, 5)).answers(4).board(5, 0, 5, 2, 4, 8, 16, 0);
        edges.at("six by six, full").after(t -> t.ring(4, 6, 63))
            .call(t -> t.without(4, 2, 3, 5)).answers(25).board(5, 0, 5, 31, 31, 31, 31, 31);
        edges.at("two by six, perhaps itself").after(t -> Make.board(t, 4, 6, 33, 62))
            .call(t -> t.without(4, 0, 0, 4)).answers(5).board(4, 0, 5, 31);
        edges.at("six by two, perhaps itself").after(t -> Make.board(t, 4, 2, 0, 1, 2, 3, 1, 2))
            .call(t -> t.without(4, 5, 1, 4)).answers(3).board(4, 0, 1, 0, 1, 0, 1, 1);
        edges.at("KIND 0, of STAIRS").after(t -> Make.stairs(t, 4, 2, 1, 2))
            .call(t -> t.without(4, 0, 0, 4)).answers(1).board(4, 0, 1, 1);
        edges.at("KIND 0, of a PAIRED one").after(t -> t.ring(4, 3, 3))
            .call(t -> t.without(4, 2, 0, 4)).answers(3).board(4, 0, 2, 1, 3);
        edges.at("anew, in the place of a greater one").after(t -> {
            t.ring(4, 2, 0);
            t.ring(5, 6, 63);
        }).call(t -> t.without(4, 0, 0, 5)).answers(0).board(5, 0, 1, 0);
        refusedAlike((t, b, to) -> t.without(b, 0, 0, to));
    }

    private static void withoutRefused() {
        edges.under("Promise 18: without");
        for (int b : Edges.NO_BOARDS) {
            edges.at("BAD ahead of BEYOND, from BOARD " + b).call(t -> t.without(b, -1, 0, 4)).bad();
            edges.at("BAD ahead of BEYOND, to BOARD " + b).after(t -> t.ring(4, 3, 3))
                .call(t -> t.without(4, -1, 0, b)).bad();
            edges.at("BAD ahead of SIZE, to BOARD " + b).after(t -> t.ring(4, 1, 1))
                .call(t -> t.without(4, 0, 0, b)).bad();
        }
        edges.at("NOTHING ahead of BEYOND").call(t -> t.without(4, -1, 6, 5)).finds(NOTHING);
        int[][] beyond = {{-1, 0}, {0, -1}, {2, 0}, {0, 3}, {2, 3}, {5, 0}, {0, 5}, {6, 0}, {0, 6}, {0, 32},
            {LEAST, 0}, {0, LEAST}, {MOST, 0}, {0, MOST}};
        for (int[] one : beyond) {
            edges.at("BEYOND, " + one[0] + ", " + one[1] + " of 2 by 3").after(t -> Make.filled(t, 4, 2, 3, 5))
                .call(t -> t.without(4, one[0], one[1], 4)).finds(BEYOND);
        }
        int[][] thin = {{1, 1}, {1, 2}, {1, 6}, {2, 1}, {6, 1}};
        for (int[] size : thin) {
            edges.at("SIZE: H or V is 1, " + size[0] + " by " + size[1])
                .after(t -> Make.filled(t, 4, size[0], size[1], 1))
                .call(t -> t.without(4, 0, 0, 4)).finds(SIZE);
            edges.at("SIZE: H or V is 1, the last PLACE, " + size[0] + " by " + size[1])
                .after(t -> Make.filled(t, 4, size[0], size[1], 1))
                .call(t -> t.without(4, size[0] - 1, size[1] - 1, 5)).finds(SIZE);
            edges.at("BEYOND ahead of SIZE, the row, " + size[0] + " by " + size[1])
                .after(t -> Make.filled(t, 4, size[0], size[1], 1))
                .call(t -> t.without(4, size[0], 0, 5)).finds(BEYOND);
            edges.at("BEYOND ahead of SIZE, the column, " + size[0] + " by " + size[1])
                .after(t -> Make.filled(t, 4, size[0], size[1], 1))
                .call(t -> t.without(4, 0, size[1], 5)).finds(BEYOND);
        }
    }

    private static void join() {
        edges.under("Promise 19: join");
        edges.at("one by one twice, empty").after(t -> t.ring(4, 1, 0))
            .call(t -> t.join(4, 4, 5)).answers(0).board(5, 0, 2, 0, 0);
        edges.at("one by one twice, full").after(t -> t.ring(4, 1, 1))
            .call(t -> t.join(4, 4, 5)).answers(2).board(5, 0, 2, 1, 2);
        edges.at("up to six by six, 3 and 3").after(t -> t.ring(4, 3, 7))
            .call(t -> t.join(4, 4, 5)).answers(18).board(5, 0, 6, 7, 7, 7, 56, 56, 56);
        edges.at("up to six by six, 1 and 5").after(t -> {
            t.ring(4, 1, 1);
            t.ring(5, 5, 31);
        }).call(t -> t.join(4, 5, 6)).answers(26).board(6, 0, 6, 1, 62, 62, 62, 62, 62);
        edges.at("up to six by six, 5 and 1").after(t -> {
            t.ring(4, 1, 1);
            t.ring(5, 5, 31);
        }).call(t -> t.join(5, 4, 6)).answers(26).board(6, 0, 6, 31, 31, 31, 31, 31, 32);
        edges.at("six rows, two columns").after(t -> Make.board(t, 4, 1, 1, 0, 1))
            .call(t -> t.join(4, 4, 5)).answers(4).board(5, 0, 2, 1, 0, 1, 2, 0, 2);
        edges.at("two rows, six columns").after(t -> Make.board(t, 4, 3, 5))
            .call(t -> t.join(4, 4, 5)).answers(4).board(5, 0, 6, 5, 40);
        edges.at("itself, all three").after(t -> Make.board(t, 4, 2, 1, 3))
            .call(t -> t.join(4, 4, 4)).answers(6).board(4, 0, 4, 1, 3, 4, 12);
        edges.at("to the first one").after(t -> {
            Make.board(t, 4, 2, 1, 3);
            t.ring(5, 1, 1);
        }).call(t -> t.join(4, 5, 4)).answers(4).board(4, 0, 3, 1, 3, 4);
        edges.at("to the second one").after(t -> {
            Make.board(t, 4, 2, 1, 3);
            t.ring(5, 1, 1);
        }).call(t -> t.join(4, 5, 5)).answers(4).board(5, 0, 3, 1, 3, 4);
        edges.at("KIND 0, of STAIRS").after(t -> Make.stairs(t, 4, 1, 0))
            .call(t -> t.join(4, 4, 4)).answers(0).board(4, 0, 2, 0, 0);
        edges.at("KIND 0, of PAIRED ones").after(t -> t.ring(4, 2, 3))
            .call(t -> t.join(4, 4, 5)).answers(8).board(5, 0, 4, 3, 3, 12, 12);
        edges.at("anew, in the place of a greater one").after(t -> {
            t.ring(4, 1, 0);
            t.ring(5, 6, 63);
        }).call(t -> t.join(4, 4, 5)).answers(0).board(5, 0, 2, 0, 0);
    }

    private static void joinRefused() {
        edges.under("Promise 19: join");
        for (int b : Edges.NO_BOARDS) {
            edges.at("BAD, the first, " + b).after(t -> t.ring(4, 1, 1)).call(t -> t.join(b, 4, 5)).bad();
            edges.at("BAD, the second, " + b).after(t -> t.ring(4, 1, 1)).call(t -> t.join(4, b, 5)).bad();
            edges.at("BAD, to " + b).after(t -> t.ring(4, 1, 1)).call(t -> t.join(4, 4, b)).bad();
            edges.at("BAD ahead of NOTHING, the first, " + b).call(t -> t.join(b, 4, 5)).bad();
            edges.at("BAD ahead of NOTHING, the second, " + b).call(t -> t.join(4, b, 5)).bad();
            edges.at("BAD ahead of NOTHING, to " + b).call(t -> t.join(4, 4, b)).bad();
            edges.at("BAD ahead of SIZE, to " + b).after(t -> t.ring(4, 6, 1)).call(t -> t.join(4, 4, b)).bad();
        }
        edges.at("NOTHING: either, the first").after(t -> t.ring(4, 6, 1)).call(t -> t.join(5, 4, 4)).finds(NOTHING);
        edges.at("NOTHING: either, the second").after(t -> t.ring(4, 6, 1)).call(t -> t.join(4, 5, 4)).finds(NOTHING);
        edges.at("NOTHING: either, both").after(t -> t.ring(4, 6, 1)).call(t -> t.join(5, 6, 4)).finds(NOTHING);
        int[][] great = {{1, 6, 1, 1}, {1, 1, 1, 6}, {6, 1, 1, 1}, {1, 1, 6, 1}, {6, 6, 1, 1}, {6, 6, 6, 6},
            {4, 1, 3, 1}, {1, 4, 1, 3}, {3, 3, 4, 3}, {3, 3, 3, 4}, {5, 2, 2, 2}, {2, 5, 2, 2}};
        for (int[] s : great) {
            edges.at("SIZE: H or V would be above 6, " + s[0] + " by " + s[1] + " and " + s[2] + " by " + s[3])
                .after(t -> {
                    Make.filled(t, 4, s[0], s[1], 1);
                    Make.filled(t, 5, s[2], s[3], 1);
                }).call(t -> t.join(4, 5, 4)).finds(SIZE);
        }
        edges.at("SIZE, to a missing one").after(t -> t.ring(4, 4, 1)).call(t -> t.join(4, 4, 9)).finds(SIZE);
    }
}
