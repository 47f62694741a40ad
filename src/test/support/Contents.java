import java.util.Arrays;
import java.util.function.Supplier;

/**
 * The ROWS and BOARDS of an object, as its calls tell them. Each one is read from an object made anew, since reading
 * takes calls, and an object is good for 512 of them.
 */
final class Contents {
    private static final int NOTHING = 1;

    /** null: missing. */
    final int[][] rows = new int[8][];
    /** KIND, H, V, and for each row its CELLS as bits; null: missing. */
    final int[][] boards = new int[12][];

    static Contents of(Supplier<TowerBoards> made) {
        Contents contents = new Contents();
        for (int r = 0; r < contents.rows.length; r++) {
            contents.rows[r] = rowOf(made.get(), r);
        }
        for (int b = 0; b < contents.boards.length; b++) {
            contents.boards[b] = boardOf(made.get(), b);
        }
        return contents;
    }

    private static int[] rowOf(TowerBoards t, int r) {
        int[] places = new int[40];
        for (int i = 0; i < places.length; i++) {
            if (t.lay(r, i, 0) != 1) {
                return t.finding() == NOTHING ? null : Arrays.copyOf(places, i);
            }
            places[i] = t.asked();
        }
        return places;
    }

    private static int[] boardOf(TowerBoards t, int b) {
        if (t.told(b, 0) != 1) {
            return null;
        }
        int kind = t.asked();
        t.told(b, 1);
        int h = t.asked();
        t.told(b, 2);
        int v = t.asked();
        int[] board = new int[3 + h];
        board[0] = kind;
        board[1] = h;
        board[2] = v;
        for (int i = 0; i < h; i++) {
            for (int j = 0; j < v; j++) {
                board[3 + i] |= t.cell(b, i, j) << j;
            }
        }
        return board;
    }

    long digest() {
        long h = 17;
        for (int[] board : boards) {
            if (board == null) {
                h = 31 * h - 1;
            } else {
                for (int v : board) {
                    h = 31 * h + v;
                }
            }
        }
        for (int[] row : rows) {
            h = 31 * h + (row == null ? -1 : row.length);
            for (int i = 0; row != null && i < row.length; i++) {
                h = 31 * h + row[i];
            }
        }
        return h;
    }

    int[] counts() {
        int[] counts = new int[5];
        for (int[] row : rows) {
            counts[0] += row == null ? 0 : 1;
        }
        for (int[] board : boards) {
            if (board != null) {
                counts[1]++;
                counts[2] += board[0] == 1 ? 1 : 0;
                counts[3] += board[0] >= 2 ? 1 : 0;
                for (int i = 3; i < board.length; i++) {
                    counts[4] += Integer.bitCount(board[i]);
                }
            }
        }
        return counts;
    }

    String text() {
        return "rows " + Arrays.deepToString(rows) + " boards " + Arrays.deepToString(boards);
    }
}
