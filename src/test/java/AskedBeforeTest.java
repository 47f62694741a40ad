import java.util.ArrayList;
import java.util.List;

/**
 * What was asked before leaves nothing behind: each question about each BOARD is asked after each other question about
 * each BOARD, and its answer is the one that an object gives that was asked nothing before.
 */
public final class AskedBeforeTest {
    private static final int BOARDS = 7;
    private static final Due due = new Due();
    private static final List<Question> questions = new ArrayList<>();

    /** A call about a BOARD, with all that it tells. */
    interface Question {
        long ask(TowerBoards t, int b);
    }

    public static void main(String[] args) {
        listQuestions();
        String[][] alone = new String[questions.size()][BOARDS];
        for (int q = 0; q < questions.size(); q++) {
            for (int b = 0; b < BOARDS; b++) {
                alone[q][b] = answer(ready(), q, b);
            }
        }
        for (int first = 0; first < questions.size() * BOARDS; first++) {
            for (int second = 0; second < questions.size() * BOARDS; second++) {
                TowerBoards t = ready();
                answer(t, first / BOARDS, first % BOARDS);
                int q = second / BOARDS;
                int b = second % BOARDS;
                String got = answer(t, q, b);
                due.isTrue("question " + q + " of board " + b + " after question " + first / BOARDS + " of board "
                    + first % BOARDS + ": " + got + ", due is " + alone[q][b], got.equals(alone[q][b]));
            }
        }
        due.end();
    }

    /** From the greatest BOARD to the smallest; ROW 0 are its WEIGHTS if it is six by six, ROW 1 if it is three by three. */
    private static TowerBoards ready() {
        TowerBoards t = new TowerBoards();
        t.ring(0, 6, 63);
        t.ring(1, 6, 11);
        Make.stairs(t, 2, 3, 1, 3, 3);
        Make.board(t, 3, 5, 22, 9);
        t.ring(4, 3, 7);
        t.ring(5, 1, 1);
        t.ring(6, 1, 0);
        t.row(0, 36);
        t.lay(0, 35, -4);
        t.lay(0, 7, 3);
        t.row(1, 9);
        t.lay(1, 8, -4);
        t.lay(1, 4, 2);
        Make.row(t, 2, 1, 0, 2);
        return t;
    }

    /** What the question before told is not looked at: a question that is refused tells nothing of its own. */
    private static String answer(TowerBoards t, int q, int b) {
        long said = questions.get(q).ask(t, b);
        return said + " " + t.digest();
    }

    private static long ways(TowerBoards t, int answer) {
        return answer == 1 ? t.ways() : answer;
    }

    private static long asked(TowerBoards t, int answer) {
        return answer >= 0 ? 100000L * answer + t.asked() : answer;
    }

    private static void listQuestions() {
        for (int k : new int[] {0, 1, 3, 6}) {
            questions.add((t, b) -> ways(t, t.towers(b, k)));
            questions.add((t, b) -> ways(t, t.hits(b, k)));
            questions.add((t, b) -> ways(t, t.slants(b, k)));
            questions.add((t, b) -> ways(t, t.rounds(b, k, 1)));
            questions.add((t, b) -> ways(t, t.spread(b, k, k)));
        }
        questions.add((t, b) -> ways(t, t.rounds(b, 2, 0)));
        questions.add((t, b) -> ways(t, t.longRings(b, 1)));
        questions.add((t, b) -> ways(t, t.longRings(b, 3)));
        questions.add((t, b) -> ways(t, t.spread(b, 0, 7)));
        questions.add((t, b) -> ways(t, t.sum(b, -50)));
        questions.add((t, b) -> ways(t, t.sum(b, 2)));
        questions.add((t, b) -> t.meanHits(b) == 1 ? 100 * t.upper() + t.lower() : -1);
        questions.add((t, b) -> t.alike(b, 4));
        questions.add((t, b) -> t.stairsLike(b, 3) + 31L * t.digest() + t.tear(3));
        questions.add((t, b) -> t.stand(b, 1, 0, 3) + 31L * t.digest() + t.tear(3));
        questions.add((t, b) -> t.stand(b, 3, 2, 3) + 31L * t.digest() + t.tear(3));
        questions.add((t, b) -> t.rank(b, 2));
        questions.add((t, b) -> t.stand(b, 0, 0, 3) + t.next(b, 3) + t.tear(3));
        questions.add((t, b) -> t.most(b));
        questions.add((t, b) -> asked(t, t.cover(b)));
        questions.add((t, b) -> asked(t, t.root(b, 0)));
        questions.add((t, b) -> asked(t, t.told(b, 3)));
        questions.add((t, b) -> asked(t, t.ringOf(b, 2, 0)));
        questions.add((t, b) -> t.need(b, 0, 0));
        questions.add((t, b) -> t.need(b, 0, 1));
        for (int r : new int[] {0, 1}) {
            questions.add((t, b) -> asked(t, t.least(b, r)));
            questions.add((t, b) -> ways(t, t.least(b, r)));
        }
        questions.add((t, b) -> t.lack(b, 0, 1, 1));
        questions.add((t, b) -> t.lack(b, 1, 1, 1));
        questions.add((t, b) -> t.other(b, 8) + 31L * t.digest() + t.drop(8));
        questions.add((t, b) -> t.turn(b, 8) + 31L * t.digest() + t.drop(8));
        questions.add((t, b) -> t.without(b, 0, 0, 8) + 31L * t.digest() + t.drop(8));
        questions.add((t, b) -> t.join(b, 4, 8) + 31L * t.digest() + t.drop(8));
    }
}
