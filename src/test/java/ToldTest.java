/** Promises 40 to 47: what is told. */
public final class ToldTest {
    private static final int NONE = TowerBoards.NONE;
    private static final Due due = new Due();

    public static void main(String[] args) {
        ways();
        asked();
        fraction();
        count();
        finding();
        findings();
        digest();
        due.end();
    }

    private static TowerBoards fresh(String part) {
        due.part(part);
        return new TowerBoards();
    }

    private static void waysAfter(TowerBoards t, String what, int answer, long want) {
        due.is(what, answer, 1);
        due.is(what + ", ways()", t.ways(), want);
        due.is(what + ", ways() again", t.ways(), want);
        t.towers(9, 0);
        t.hits(0, 7);
        t.sum(0, 51);
        t.spread(9, 0, 0);
        t.least(0, 7);
        t.rounds(9, 0, 0);
        t.longRings(0, 0);
        t.slants(0, 12);
        due.is(what + ", ways() after refused calls", t.ways(), want);
    }

    private static void ways() {
        TowerBoards t = fresh("promise 40");
        due.is("ways() before", t.ways(), 0);
        t.ring(0, 3, 7);
        t.row(0, 9);
        due.is("ways() before", t.ways(), 0);
        waysAfter(t, "towers", t.towers(0, 2), 18);
        waysAfter(t, "hits", t.hits(0, 3), 6);
        waysAfter(t, "sum", t.sum(0, 0), 6);
        waysAfter(t, "sum below 0", t.sum(0, -4), -6);
        waysAfter(t, "spread", t.spread(0, 0, 9), 1);
        waysAfter(t, "least", t.least(0, 0), 6);
        waysAfter(t, "rounds", t.rounds(0, 3, 2), 3);
        waysAfter(t, "longRings", t.longRings(0, 3), 2);
        waysAfter(t, "slants", t.slants(0, 3), 26);
        t.stand(0, 3, 0, 1);
        t.rank(0, 1);
        t.next(0, 1);
        t.most(0);
        t.cover(0);
        t.need(0, 0, 0);
        t.lack(0, 0, 0, 0);
        t.ringOf(0, 1, 0);
        t.alike(0, 0);
        t.stairsLike(0, 2);
        t.meanHits(0);
        t.mean(0);
        due.is("ways() after calls that tell none", t.ways(), 26);
    }

    private static void askedAfter(TowerBoards t, String what, boolean isDone, int want) {
        due.isTrue(what, isDone);
        due.is(what + ", asked()", t.asked(), want);
        t.lay(0, 9, 1);
        t.lay(7, 0, 1);
        t.mean(7);
        t.told(0, 4);
        t.told(9, 0);
        t.root(0, 9);
        t.cover(9);
        t.least(0, 2);
        t.ringOf(0, 7, 0);
        due.is(what + ", asked() after refused calls", t.asked(), want);
        due.is(what + ", no such ring", t.ringOf(0, 1, 5), NONE);
        due.is(what + ", asked() after none", t.asked(), want);
    }

    private static void asked() {
        TowerBoards t = fresh("promise 41");
        due.is("asked() before", t.asked(), 0);
        t.row(0, 9);
        Make.stairs(t, 0, 3, 1, 2, 3);
        Make.row(t, 1, 0, 1, 2);
        t.row(2, 3);
        askedAfter(t, "lay", t.lay(0, 0, 7) == 1, 0);
        askedAfter(t, "lay again", t.lay(0, 0, 20) == 1, 7);
        askedAfter(t, "mean", t.mean(0) == 1, 2);
        askedAfter(t, "told", t.told(0, 3) == 1, 6);
        askedAfter(t, "root", t.root(0, 2) == 1, -1);
        askedAfter(t, "cover", t.cover(0) == 3, 7);
        askedAfter(t, "least", t.least(0, 0) == 1, 20);
        askedAfter(t, "ringOf", t.ringOf(0, 1, 2) == 1, 4);
        t.lack(0, 0, 0, 0);
        t.need(0, 0, 0);
        t.most(0);
        t.mark(0, 1);
        t.is(0, 1);
        t.cell(0, 0, 0);
        t.rank(0, 1);
        t.next(0, 1);
        t.towers(0, 1);
        t.copy(0, 0, 0, 1, 2);
        due.is("asked() after calls that tell none", t.asked(), 4);
    }

    private static void fraction() {
        TowerBoards t = fresh("promises 42 and 43");
        due.is("upper() before", t.upper(), 0);
        due.is("lower() before", t.lower(), 1);
        Make.board(t, 0, 6, 15, 0, 0);
        due.is("meanHits(0)", t.meanHits(0), 1);
        due.is("upper()", t.upper(), 2);
        due.is("lower()", t.lower(), 3);
        t.meanHits(9);
        t.meanHits(12);
        t.row(0, 3);
        t.mean(0);
        due.is("upper() after others", t.upper(), 2);
        due.is("lower() after others", t.lower(), 3);
        t.ring(0, 6, 0);
        due.is("meanHits(0)", t.meanHits(0), 1);
        due.is("upper() of none", t.upper(), 0);
        due.is("lower() of none", t.lower(), 1);
    }

    private static void countsAre(TowerBoards t, String what, int... want) {
        for (int i = 0; i < 5; i++) {
            due.is(what + ", count(" + i + ")", t.count(i), want[i]);
        }
    }

    private static void count() {
        TowerBoards t = fresh("promise 44");
        countsAre(t, "new", 0, 0, 0, 0, 0);
        t.row(0, 0);
        t.row(7, 36);
        countsAre(t, "rows", 2, 0, 0, 0, 0);
        Make.stairs(t, 0, 3, 1, 2);
        Make.board(t, 11, 3, 7, 7);
        t.tear(7);
        countsAre(t, "stairs and board", 1, 2, 1, 0, 9);
        t.ring(1, 3, 3);
        t.ring(2, 3, 1);
        Make.stairs(t, 3, 6, 6);
        countsAre(t, "all", 1, 5, 2, 2, 24);
        t.other(1, 1);
        countsAre(t, "no longer paired", 1, 5, 2, 1, 21);
        t.set(11, 0, 0, false);
        countsAre(t, "one cell less", 1, 5, 2, 1, 20);
        t.drop(3);
        countsAre(t, "stairs dropped", 1, 4, 1, 1, 14);
        due.badBeyond(t, "what", 0, 4, t::count);
    }

    private static void finding() {
        TowerBoards t = fresh("promise 45");
        due.is("finding() before", t.finding(), 0);
        t.row(8, 0);
        due.is("finding() after BAD", t.finding(), 0);
        t.row(0, -1);
        due.is("SIZE", t.finding(), 5);
        t.row(0, 0);
        due.is("it stays", t.finding(), 5);
        t.mean(0);
        due.is("NOUGHT", t.finding(), 4);
        t.lay(0, 0, 0);
        due.is("BEYOND", t.finding(), 2);
        t.tear(1);
        due.is("NOTHING", t.finding(), 1);
        t.ring(0, 2, 1);
        t.mark(0, 1);
        due.is("UNLIKE", t.finding(), 3);
        t.mark(0, 4);
        due.is("it stays after BAD", t.finding(), 3);
    }

    private static void findings() {
        TowerBoards t = fresh("promise 46");
        for (int f = 1; f <= 5; f++) {
            due.is("findings(" + f + ") before", t.findings(f), 0);
        }
        t.row(0, 0);
        t.ring(0, 2, 1);
        for (int i = 0; i < 5; i++) {
            t.tear(1);
            if (i > 0) {
                t.lay(0, 0, 0);
            }
            if (i > 1) {
                t.mark(0, 1);
            }
            if (i > 2) {
                t.mean(0);
            }
        }
        t.row(0, -1);
        for (int f = 1; f <= 5; f++) {
            due.is("findings(" + f + ")", t.findings(f), 6 - f);
        }
        due.badBeyond(t, "finding", 1, 5, t::findings);
    }

    private static long digestOf(long... values) {
        long h = 17;
        for (long v : values) {
            h = 31 * h + v;
        }
        return h;
    }

    private static void digest() {
        TowerBoards t = fresh("promise 47");
        long no = -1;
        due.is("new", t.digest(), digestOf(
            no, no, no, no, no, no, no, no, no, no, no, no, no, no, no, no, no, no, no, no));
        Make.row(t, 0, Integer.MIN_VALUE, 9);
        t.row(6, 0);
        Make.row(t, 5, -1);
        Make.stairs(t, 11, 3, 1, 3);
        t.ring(1, 3, 3);
        t.ring(2, 2, 2);
        Make.board(t, 0, 4, 9);
        long want = digestOf(
            0, 1, 4, 9, 3, 3, 3, 3, 6, 5, 2, 2, 2, 2, 1, no, no, no, no, no, no, no, no, 1, 2, 3, 1, 7,
            2, Integer.MIN_VALUE, 9, no, no, no, no, 1, -1, 0, no);
        due.is("filled", t.digest(), want);
        due.is("again", t.digest(), want);
        t.towers(0, 1);
        t.cover(0);
        t.meanHits(0);
        t.tear(4);
        due.is("what is told and found is not in it", t.digest(), want);
    }
}
