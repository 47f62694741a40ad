/** Makes ROWS and BOARDS by the calls of the face, and reads them back by these. */
final class Make {
    private Make() {
    }

    static void row(TowerBoards t, int r, int... values) {
        t.row(r, values.length);
        for (int i = 0; i < values.length; i++) {
            t.lay(r, i, values[i]);
        }
    }

    /** By ROW 7, which is missing afterwards. */
    static int board(TowerBoards t, int b, int v, int... cells) {
        row(t, 7, cells);
        int answer = t.board(b, v, 7);
        t.tear(7);
        return answer;
    }

    /** A BOARD of h rows that all have the same CELLS. */
    static int filled(TowerBoards t, int b, int h, int v, int cells) {
        int[] all = new int[h];
        java.util.Arrays.fill(all, cells);
        return board(t, b, v, all);
    }

    /** By ROW 7, which is missing afterwards. */
    static int stairs(TowerBoards t, int b, int v, int... lengths) {
        row(t, 7, lengths);
        int answer = t.stairs(b, v, 7);
        t.tear(7);
        return answer;
    }

    /** What the ROW holds, as text; each place is laid anew with what it had. */
    static String rowText(TowerBoards t, int r) {
        StringBuilder text = new StringBuilder();
        for (int i = 0; t.lay(r, i, 0) == 1; i++) {
            int was = t.asked();
            t.lay(r, i, was);
            text.append(i == 0 ? "" : " ").append(was);
        }
        return text.toString();
    }

    /** KIND, H, V and the cells of each row as bits. */
    static String boardText(TowerBoards t, int b) {
        if (t.told(b, 0) != 1) {
            return "missing";
        }
        StringBuilder text = new StringBuilder();
        text.append(t.asked());
        t.told(b, 1);
        int h = t.asked();
        t.told(b, 2);
        int v = t.asked();
        text.append(' ').append(h).append('x').append(v).append(':');
        for (int i = 0; i < h; i++) {
            int bits = 0;
            for (int j = 0; j < v; j++) {
                bits |= t.cell(b, i, j) << j;
            }
            text.append(' ').append(bits);
        }
        return text.toString();
    }
}
