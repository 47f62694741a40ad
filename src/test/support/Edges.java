import java.util.ArrayList;
import java.util.List;
import java.util.function.Supplier;

/**
 * Boundaries, each a case of its own on objects of its own, named by the words of the document. A case is one call and
 * what it changes; all that the case does not name must be as it was: what is told, what was found, ROWS and BOARDS.
 */
final class Edges {
    static final int NOTHING = 1, BEYOND = 2, UNLIKE = 3, NOUGHT = 4, SIZE = 5;
    static final int LEAST = Integer.MIN_VALUE, MOST = Integer.MAX_VALUE;
    static final int[] NO_ROWS = {-1, 8, LEAST, MOST};
    static final int[] NO_BOARDS = {-1, 12, LEAST, MOST};

    private final Due due = new Due();
    private final List<Case> cases = new ArrayList<>();
    private String heading = "";

    /** Calls that make what a case begins with. */
    interface Calls {
        void on(TowerBoards t);
    }

    /** The call that a case is about. */
    interface Call {
        long on(TowerBoards t);
    }

    /** The heading of the document under which the next cases stand. */
    void under(String newHeading) {
        heading = newHeading;
    }

    /** The case is looked at when all cases end. */
    Case at(String words) {
        Case one = new Case(heading + ": " + words);
        cases.add(one);
        return one;
    }

    /** Numbers just outside a range, and the farthest ones. */
    static int[] outside(int least, int most) {
        return new int[] {least - 1, most + 1, LEAST, MOST};
    }

    void end() {
        for (Case one : cases) {
            one.look();
        }
        System.out.println(cases.size() + " cases");
        due.end();
    }

    /** One call at a boundary. */
    final class Case {
        private final String name;
        private boolean isFresh = false;
        private Calls calls = t -> { };
        private Call call = null;
        private Long answer = null;
        private Long ways = null;
        private Long asked = null;
        private Long upper = null;
        private Long lower = null;
        private int finding = 0;
        private final Contents changes = new Contents();
        private final boolean[] rowChanges = new boolean[8];
        private final boolean[] boardChanges = new boolean[12];

        private Case(String name) {
            this.name = name;
        }

        /** On an object to which nothing is said but what the case says itself. */
        Case fresh() {
            isFresh = true;
            return this;
        }

        Case after(Calls made) {
            calls = made;
            return this;
        }

        Case call(Call one) {
            call = one;
            return this;
        }

        Case answers(long want) {
            answer = want;
            return this;
        }

        Case bad() {
            return answers(TowerBoards.BAD);
        }

        Case none() {
            return answers(TowerBoards.NONE);
        }

        Case finds(int want) {
            finding = want;
            return answers(TowerBoards.FINDING);
        }

        Case ways(long want) {
            ways = want;
            return this;
        }

        Case asked(long want) {
            asked = want;
            return this;
        }

        Case fraction(long above, long below) {
            upper = above;
            lower = below;
            return this;
        }

        /** The ROW is then this one. */
        Case row(int r, int... places) {
            changes.rows[r] = places;
            rowChanges[r] = true;
            return this;
        }

        Case noRow(int r) {
            return row(r, (int[]) null);
        }

        /** The BOARD is then this one. */
        Case board(int b, int kind, int v, int... cells) {
            int[] board = new int[3 + cells.length];
            board[0] = kind;
            board[1] = cells.length;
            board[2] = v;
            System.arraycopy(cells, 0, board, 3, cells.length);
            changes.boards[b] = board;
            boardChanges[b] = true;
            return this;
        }

        Case noBoard(int b) {
            changes.boards[b] = null;
            boardChanges[b] = true;
            return this;
        }

        private TowerBoards before() {
            TowerBoards t = new TowerBoards();
            calls.on(t);
            if (!isFresh) {
                talk(t, finding % 5 + 1);
            }
            return t;
        }

        private TowerBoards afterwards() {
            TowerBoards t = before();
            call.on(t);
            return t;
        }

        private void look() {
            due.part(name);
            due.isTrue("a case has a call and an answer", call != null && answer != null);
            TowerBoards was = before();
            TowerBoards t = before();
            due.is("the call", call.on(t), answer);
            due.is("ways()", t.ways(), ways == null ? was.ways() : ways);
            due.is("asked()", t.asked(), asked == null ? was.asked() : asked);
            due.is("upper()", t.upper(), upper == null ? was.upper() : upper);
            due.is("lower()", t.lower(), lower == null ? was.lower() : lower);
            due.is("finding()", t.finding(), finding == 0 ? was.finding() : finding);
            for (int f = 1; f <= 5; f++) {
                due.is("findings(" + f + ")", t.findings(f), was.findings(f) + (f == finding ? 1 : 0));
            }
            lookAtContents(t, wanted(Contents.of(this::before)));
        }

        private Contents wanted(Contents contents) {
            for (int r = 0; r < rowChanges.length; r++) {
                contents.rows[r] = rowChanges[r] ? changes.rows[r] : contents.rows[r];
            }
            for (int b = 0; b < boardChanges.length; b++) {
                contents.boards[b] = boardChanges[b] ? changes.boards[b] : contents.boards[b];
            }
            return contents;
        }

        private void lookAtContents(TowerBoards t, Contents want) {
            int[] counts = want.counts();
            for (int what = 0; what < counts.length; what++) {
                due.is("count(" + what + ")", t.count(what), counts[what]);
            }
            due.is("digest()", t.digest(), want.digest());
            Supplier<TowerBoards> made = this::afterwards;
            String got = Contents.of(made).text();
            due.isTrue("then it has " + got + ", due is " + want.text(), got.equals(want.text()));
        }
    }

    /**
     * Every number that is told has a value that no case asks for, and each FINDING was met, this one last.
     * It takes ROW 7 and BOARD 11, which a case that is not fresh leaves missing.
     */
    private void talk(TowerBoards t, int last) {
        due.isTrue("ROW 7 and BOARD 11 are missing", t.copy(7, 0, 7, 0, 0) != 1 && t.told(11, 0) != 1);
        Make.row(t, 7, -77);
        t.lay(7, 0, 0);
        t.tear(7);
        int asked = t.asked();
        Make.board(t, 11, 5, 31, 3);
        t.meanHits(11);
        t.sum(11, -49);
        t.drop(11);
        for (int f = 1; f <= 5; f++) {
            meet(t, (last + f - 1) % 5 + 1);
        }
        Make.row(t, 7, asked);
        t.lay(7, 0, 0);
        t.tear(7);
    }

    private static void meet(TowerBoards t, int finding) {
        t.row(7, 0);
        t.ring(11, 1, 0);
        switch (finding) {
            case NOTHING -> t.tear(6);
            case BEYOND -> t.lay(7, 0, 0);
            case UNLIKE -> t.mark(11, 1);
            case NOUGHT -> t.mean(7);
            default -> t.row(7, -1);
        }
        t.tear(7);
        t.drop(11);
    }
}
