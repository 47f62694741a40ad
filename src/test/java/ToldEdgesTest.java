import java.util.Arrays;

/** The boundaries of promises 40 to 47 (what is told), and of an object's 512 calls, each a case of its own. */
public final class ToldEdgesTest {
    private static final int NOTHING = Edges.NOTHING, BEYOND = Edges.BEYOND, UNLIKE = Edges.UNLIKE;
    private static final int NOUGHT = Edges.NOUGHT, SIZE = Edges.SIZE;
    private static final int LEAST = Edges.LEAST, MOST = Edges.MOST;
    private static final Edges edges = new Edges();

    public static void main(String[] args) {
        ways();
        waysStay();
        asked();
        askedStays();
        fraction();
        count();
        finding();
        findings();
        digest();
        allCalls();
        edges.end();
    }

    private static int[] all(int n, int value) {
        int[] values = new int[n];
        Arrays.fill(values, value);
        return values;
    }

    /** BOARD 4 is three by three, full, and STAIRS; ROW 2 are WEIGHTS 1 of it; ROW 3 is a STAND of it. */
    private static void ready(TowerBoards t) {
        Make.stairs(t, 4, 3, 3, 3, 3);
        Make.row(t, 2, all(9, 1));
        Make.row(t, 3, 1, 0, 2);
    }

    private static Edges.Calls readyThen(Edges.Call call) {
        return t -> {
            ready(t);
            call.on(t);
        };
    }

    // ---- promise 40

    private static void waysAfter(String words, long want, Edges.Call call) {
        edges.at("the latest, " + words).fresh().after(readyThen(call)).call(TowerBoards::ways).answers(want);
        edges.at("the latest, " + words + ", told again").fresh().after(t -> {
            ready(t);
            call.on(t);
            t.ways();
        }).call(TowerBoards::ways).answers(want);
    }

    private static void ways() {
        edges.under("Promise 40: ways");
        edges.at("0 before").fresh().call(TowerBoards::ways).answers(0);
        edges.at("0 before, with BOARDS and ROWS").fresh().after(ToldEdgesTest::ready).call(TowerBoards::ways).answers(0);
        edges.at("0 before, after a refused call").fresh().after(t -> {
            t.towers(0, 0);
            t.towers(0, 37);
        }).call(TowerBoards::ways).answers(0);
        waysAfter("towers", 18, t -> t.towers(4, 2));
        waysAfter("towers, 0", 0, t -> t.towers(4, 2) + t.towers(4, 36));
        waysAfter("hits", 6, t -> t.hits(4, 3));
        waysAfter("hits, 0", 0, t -> t.towers(4, 2) + t.hits(4, 0));
        waysAfter("sum", 60, t -> t.sum(4, 2));
        waysAfter("sum, 0", 0, t -> t.towers(4, 2) + t.sum(4, -1));
        waysAfter("sum, below 0", -6, t -> t.sum(4, -4));
        waysAfter("spread", 1, t -> t.spread(4, 0, 9));
        waysAfter("spread, 0", 0, t -> t.towers(4, 2) + t.spread(4, 0, 0));
        waysAfter("least", 6, t -> t.least(4, 2));
        waysAfter("rounds", 3, t -> t.rounds(4, 3, 2));
        waysAfter("rounds, 0", 0, t -> t.towers(4, 2) + t.rounds(4, 3, 0));
        waysAfter("longRings", 2, t -> t.longRings(4, 3));
        waysAfter("longRings, 0", 0, t -> t.towers(4, 2) + t.longRings(4, 6));
        waysAfter("slants", 26, t -> t.slants(4, 3));
        waysAfter("slants, 0", 0, t -> t.towers(4, 2) + t.slants(4, 11));
    }

    private static void waysStayAfter(String words, Edges.Call call) {
        edges.at(words).fresh().after(t -> {
            ready(t);
            t.towers(4, 2);
            call.on(t);
        }).call(TowerBoards::ways).answers(18);
    }

    private static void waysStay() {
        edges.under("Promise 40: ways, not by a refused call");
        waysStayAfter("towers, BAD", t -> t.towers(4, 37));
        waysStayAfter("towers, NOTHING", t -> t.towers(5, 0));
        waysStayAfter("hits, BAD", t -> t.hits(4, 7));
        waysStayAfter("hits, NOTHING", t -> t.hits(5, 0));
        waysStayAfter("sum, BAD", t -> t.sum(4, 51));
        waysStayAfter("sum, NOTHING", t -> t.sum(5, 0));
        waysStayAfter("spread, BAD", t -> t.spread(4, 0, 37));
        waysStayAfter("spread, NOTHING", t -> t.spread(5, 0, 0));
        waysStayAfter("least, BAD", t -> t.least(4, 8));
        waysStayAfter("least, NOTHING", t -> t.least(4, 5));
        waysStayAfter("least, SIZE", t -> t.least(4, 3));
        waysStayAfter("least, UNLIKE", t -> t.lay(2, 0, 1001) + t.least(4, 2));
        waysStayAfter("rounds, BAD", t -> t.rounds(4, 7, 0));
        waysStayAfter("rounds, NOTHING", t -> t.rounds(5, 0, 0));
        waysStayAfter("rounds, UNLIKE", t -> Make.board(t, 5, 2, 3) + t.rounds(5, 0, 0));
        waysStayAfter("longRings, BAD", t -> t.longRings(4, 0));
        waysStayAfter("longRings, NOTHING", t -> t.longRings(5, 1));
        waysStayAfter("longRings, UNLIKE", t -> Make.board(t, 5, 2, 3) + t.longRings(5, 1));
        waysStayAfter("slants, BAD", t -> t.slants(4, 12));
        waysStayAfter("slants, NOTHING", t -> t.slants(5, 0));
        edges.under("Promise 40: ways, not by another call");
        waysStayAfter("meanHits", t -> t.meanHits(4));
        waysStayAfter("alike", t -> t.alike(4, 4));
        waysStayAfter("stairsLike", t -> t.stairsLike(4, 0));
        waysStayAfter("root", t -> t.root(4, 0));
        waysStayAfter("stand", t -> t.stand(4, 1, 1, 0));
        waysStayAfter("rank", t -> t.rank(4, 3));
        waysStayAfter("next", t -> t.next(4, 3));
        waysStayAfter("most", t -> t.most(4));
        waysStayAfter("cover", t -> t.cover(4));
        waysStayAfter("need", t -> t.need(4, 0, 0));
        waysStayAfter("lack", t -> t.lack(4, 2, 0, 0));
        waysStayAfter("ringOf", t -> t.ringOf(4, 3, 0));
        waysStayAfter("mean", t -> t.mean(2));
        waysStayAfter("the BOARD is dropped", t -> t.drop(4));
    }

    // ---- promise 41

    private static void askedAfter(String words, int want, Edges.Call call) {
        edges.at("the latest, " + words).fresh().after(readyThen(call)).call(TowerBoards::asked).answers(want);
        edges.at("the latest, " + words + ", told again").fresh().after(t -> {
            ready(t);
            call.on(t);
            t.asked();
        }).call(TowerBoards::asked).answers(want);
    }

    private static void asked() {
        edges.under("Promise 41: asked");
        edges.at("0 before").fresh().call(TowerBoards::asked).answers(0);
        edges.at("0 before, with BOARDS and ROWS").fresh().after(t -> {
            t.ring(4, 6, 63);
            t.row(2, 36);
        }).call(TowerBoards::asked).answers(0);
        edges.at("0 before, after a refused call").fresh().after(t -> {
            t.told(0, 0);
            t.told(0, 4);
        }).call(TowerBoards::asked).answers(0);
        edges.at("0 before, after NONE").fresh().after(t -> {
            t.ring(4, 1, 0);
            t.stand(4, 0, 0, 2);
            t.ringOf(4, 2, 0);
        }).call(TowerBoards::asked).answers(0);
        askedAfter("lay", 1, t -> t.lay(2, 0, 5));
        askedAfter("lay, 0", 0, t -> t.lay(2, 0, 0) + t.lay(2, 0, 5));
        askedAfter("lay, the least", LEAST, t -> t.lay(2, 0, LEAST) + t.lay(2, 0, 5));
        askedAfter("lay, the greatest", MOST, t -> t.lay(2, 0, MOST) + t.lay(2, 0, 5));
        askedAfter("mean", 1, t -> t.mean(2));
        askedAfter("told", 9, t -> t.told(4, 3));
        askedAfter("root", -3, t -> t.root(4, 0));
        askedAfter("cover", 7, t -> t.cover(4));
        askedAfter("least", 3, t -> t.least(4, 2));
        askedAfter("ringOf", 4, t -> t.ringOf(4, 3, 1));
    }

    private static void askedStaysAfter(String words, Edges.Call call) {
        edges.at(words).fresh().after(t -> {
            ready(t);
            t.told(4, 3);
            call.on(t);
        }).call(TowerBoards::asked).answers(9);
    }

    private static void askedStays() {
        edges.under("Promise 41: asked, not by a refused call");
        askedStaysAfter("lay, BAD", t -> t.lay(8, 0, 1));
        askedStaysAfter("lay, NOTHING", t -> t.lay(5, 0, 1));
        askedStaysAfter("lay, BEYOND", t -> t.lay(2, 9, 1));
        askedStaysAfter("mean, BAD", t -> t.mean(8));
        askedStaysAfter("mean, NOTHING", t -> t.mean(5));
        askedStaysAfter("mean, NOUGHT", t -> t.row(5, 0) + t.mean(5));
        askedStaysAfter("told, BAD", t -> t.told(4, 4));
        askedStaysAfter("told, NOTHING", t -> t.told(5, 0));
        askedStaysAfter("root, BAD", t -> t.root(12, 0));
        askedStaysAfter("root, NOTHING", t -> t.root(5, 0));
        askedStaysAfter("root, UNLIKE", t -> t.ring(5, 2, 3) + t.root(5, 0));
        askedStaysAfter("root, BEYOND", t -> t.root(4, 3));
        askedStaysAfter("cover, BAD", t -> t.cover(12));
        askedStaysAfter("cover, NOTHING", t -> t.cover(5));
        askedStaysAfter("least, BAD", t -> t.least(4, 8));
        askedStaysAfter("least, NOTHING", t -> t.least(5, 2));
        askedStaysAfter("least, SIZE", t -> t.least(4, 3));
        askedStaysAfter("ringOf, BAD", t -> t.ringOf(4, 8, 0));
        askedStaysAfter("ringOf, NOTHING", t -> t.ringOf(4, 5, 0));
        askedStaysAfter("ringOf, SIZE", t -> t.ringOf(4, 2, 0));
        askedStaysAfter("ringOf, UNLIKE", t -> t.row(5, 3) + t.ringOf(4, 5, 0));
        edges.under("Promise 41: asked, nor NONE");
        askedStaysAfter("ringOf", t -> t.ringOf(4, 3, 2));
        edges.under("Promise 41: asked, not by another call");
        askedStaysAfter("copy", t -> t.copy(2, 0, 3, 0, 1));
        askedStaysAfter("is", t -> t.is(4, 1));
        askedStaysAfter("mark", t -> t.mark(4, 1));
        askedStaysAfter("cell", t -> t.cell(4, 0, 0));
        askedStaysAfter("towers", t -> t.towers(4, 1));
        askedStaysAfter("meanHits", t -> t.meanHits(4));
        askedStaysAfter("rank", t -> t.rank(4, 3));
        askedStaysAfter("next", t -> t.next(4, 3));
        askedStaysAfter("most", t -> t.most(4));
        askedStaysAfter("need", t -> t.need(4, 0, 0));
        askedStaysAfter("lack", t -> t.lack(4, 2, 0, 0));
        askedStaysAfter("count", t -> t.count(4));
        askedStaysAfter("the BOARD is dropped", t -> t.drop(4));
    }

    // ---- promises 42 and 43

    private static void fractionAfter(String words, long upper, long lower, Edges.Calls made) {
        edges.under("Promise 42: upper");
        edges.at(words).fresh().after(made).call(TowerBoards::upper).answers(upper);
        edges.under("Promise 43: lower");
        edges.at(words).fresh().after(made).call(TowerBoards::lower).answers(lower);
    }

    private static void fraction() {
        fractionAfter("before", 0, 1, t -> { });
        fractionAfter("before, with BOARDS", 0, 1, t -> t.ring(4, 6, 1));
        fractionAfter("before, after a refused call", 0, 1, t -> t.meanHits(0));
        fractionAfter("told last", 1, 6, t -> {
            Make.board(t, 4, 6, 1);
            t.meanHits(4);
        });
        fractionAfter("told last, 0 by 1", 0, 1, t -> {
            Make.board(t, 4, 6, 1);
            t.meanHits(4);
            t.set(4, 0, 0, false);
            t.meanHits(4);
        });
        fractionAfter("told last, a refused call after it", 1, 6, t -> {
            Make.board(t, 4, 6, 1);
            t.meanHits(4);
            t.meanHits(5);
            t.meanHits(12);
        });
        fractionAfter("told last, the BOARD is dropped", 1, 6, t -> {
            Make.board(t, 4, 6, 1);
            t.meanHits(4);
            t.drop(4);
        });
    }

    // ---- promise 44

    private static void countIs(String words, int what, int want, Edges.Calls made) {
        edges.at(words + ", count(" + what + ")").fresh().after(made).call(t -> t.count(what)).answers(want);
    }

    private static void everything(TowerBoards t) {
        for (int r = 0; r < 8; r++) {
            t.row(r, 36);
        }
        for (int b = 0; b < 12; b++) {
            t.ring(b, 6, 63);
        }
    }

    private static void count() {
        edges.under("Promise 44: count");
        int[] full = {8, 12, 0, 12, 432};
        int[] mixed = {2, 4, 1, 2, 18};
        for (int what = 0; what <= 4; what++) {
            countIs("none", what, 0, t -> { });
            countIs("all there is room for", what, full[what], ToldEdgesTest::everything);
            countIs("all missing again", what, 0, t -> {
                everything(t);
                for (int r = 0; r < 8; r++) {
                    t.tear(r);
                }
                for (int b = 0; b < 12; b++) {
                    t.drop(b);
                }
            });
            countIs("one of each KIND", what, mixed[what], t -> {
                t.row(0, 0);
                t.row(6, 1);
                Make.board(t, 0, 3, 5, 2);
                Make.stairs(t, 1, 3, 1, 2);
                t.ring(2, 3, 5);
                t.ring(11, 3, 3);
            });
        }
        countIs("a ROW of no ints is there", 0, 1, t -> t.row(0, 0));
        countIs("a BOARD without CELLS is there", 1, 1, t -> t.ring(0, 1, 0));
        countIs("twelve STAIRS", 2, 12, t -> {
            t.row(0, 1);
            for (int b = 0; b < 12; b++) {
                t.stairs(b, 1, 0);
            }
        });
        for (int what : Edges.outside(0, 4)) {
            edges.at("BAD, what " + what).after(ToldEdgesTest::ready).call(t -> t.count(what)).bad();
        }
    }

    // ---- promises 45 and 46

    private static void findingAfter(String words, int want, Edges.Calls made) {
        edges.at(words).fresh().after(made).call(TowerBoards::finding).answers(want);
    }

    private static void finding() {
        edges.under("Promise 45: finding");
        findingAfter("0 before any", 0, t -> { });
        findingAfter("0 before any, after BAD", 0, t -> t.row(8, -1));
        findingAfter("0 before any, after what is not refused", 0, ToldEdgesTest::ready);
        findingAfter("0 before any, after NONE", 0, t -> {
            ready(t);
            t.ringOf(4, 3, 9);
        });
        findingAfter("NOTHING", NOTHING, t -> t.tear(0));
        findingAfter("BEYOND", BEYOND, t -> {
            t.row(0, 0);
            t.lay(0, 0, 0);
        });
        findingAfter("UNLIKE", UNLIKE, t -> {
            t.ring(0, 1, 0);
            t.mark(0, 1);
        });
        findingAfter("NOUGHT", NOUGHT, t -> {
            t.row(0, 0);
            t.mean(0);
        });
        findingAfter("SIZE", SIZE, t -> t.row(0, -1));
        findingAfter("the latest", NOTHING, t -> {
            t.row(0, -1);
            t.tear(0);
        });
        findingAfter("the latest, BAD after it", SIZE, t -> {
            t.row(0, -1);
            t.row(0, 37);
        });
        findingAfter("the latest, what is not refused after it", SIZE, t -> {
            t.row(0, -1);
            ready(t);
        });
        findingAfter("the latest, NONE after it", SIZE, t -> {
            t.row(0, -1);
            ready(t);
            t.ringOf(4, 3, 9);
        });
    }

    private static void findEach(TowerBoards t) {
        t.tear(0);
        t.row(0, 0);
        t.lay(0, 0, 0);
        t.ring(0, 1, 0);
        t.mark(0, 1);
        t.mean(0);
        t.row(0, -1);
    }

    private static void findings() {
        edges.under("Promise 46: findings");
        for (int f = 1; f <= 5; f++) {
            int asked = f;
            edges.at("none, " + f).fresh().call(t -> t.findings(asked)).answers(0);
            edges.at("none after BAD, " + f).fresh().after(t -> t.row(8, -1)).call(t -> t.findings(asked)).answers(0);
            edges.at("once each, " + f).fresh().after(ToldEdgesTest::findEach).call(t -> t.findings(asked)).answers(1);
        }
        edges.at("how often, twice").fresh().after(t -> {
            t.tear(0);
            t.tear(1);
        }).call(t -> t.findings(NOTHING)).answers(2);
        edges.at("how often, another one does not count").fresh().after(t -> {
            t.tear(0);
            t.row(0, -1);
            t.tear(1);
        }).call(t -> t.findings(SIZE)).answers(1);
        for (int f : Edges.outside(1, 5)) {
            edges.at("BAD, " + f).call(t -> t.findings(f)).bad();
        }
    }

    // ---- promise 47

    private static void digestIs(String words, Edges.Calls made, long... values) {
        long h = 17;
        for (long v : values) {
            h = 31 * h + v;
        }
        edges.at(words).fresh().after(made).call(TowerBoards::digest).answers(h);
    }

    private static void digest() {
        edges.under("Promise 47: digest");
        digestIs("all missing", t -> { }, -1, -1, -1, -1, -1, -1, -1, -1, -1, -1, -1, -1, -1, -1, -1, -1, -1, -1, -1, -1);
        digestIs("a ROW of no ints", t -> t.row(0, 0),
            -1, -1, -1, -1, -1, -1, -1, -1, -1, -1, -1, -1, 0, -1, -1, -1, -1, -1, -1, -1);
        digestIs("the last ROW, the least and the greatest int", t -> Make.row(t, 7, LEAST, MOST),
            -1, -1, -1, -1, -1, -1, -1, -1, -1, -1, -1, -1, -1, -1, -1, -1, -1, -1, -1, 2, LEAST, MOST);
        digestIs("the first BOARD, without CELLS", t -> t.ring(0, 1, 0),
            2, 1, 1, 0, -1, -1, -1, -1, -1, -1, -1, -1, -1, -1, -1, -1, -1, -1, -1, -1, -1, -1, -1);
        digestIs("the last BOARD, six by six, full", t -> t.ring(11, 6, 63),
            -1, -1, -1, -1, -1, -1, -1, -1, -1, -1, -1, 2, 6, 6, 63, 63, 63, 63, 63, 63,
            -1, -1, -1, -1, -1, -1, -1, -1);
        digestIs("H is not V", t -> Make.board(t, 0, 6, 33),
            0, 1, 6, 33, -1, -1, -1, -1, -1, -1, -1, -1, -1, -1, -1, -1, -1, -1, -1, -1, -1, -1, -1);
        digestIs("a BOARD that is dropped and a ROW that is torn", t -> {
            t.ring(0, 6, 63);
            t.row(0, 36);
            t.drop(0);
            t.tear(0);
        }, -1, -1, -1, -1, -1, -1, -1, -1, -1, -1, -1, -1, -1, -1, -1, -1, -1, -1, -1, -1);
        edges.at("all there is room for").fresh().after(ToldEdgesTest::everything)
            .call(TowerBoards::digest).answers(digestOfEverything());
    }

    private static long digestOfEverything() {
        long h = 17;
        for (int b = 0; b < 12; b++) {
            for (int v : new int[] {2, 6, 6, 63, 63, 63, 63, 63, 63}) {
                h = 31 * h + v;
            }
        }
        for (int r = 0; r < 8; r++) {
            h = 31 * h + 36;
            for (int i = 0; i < 36; i++) {
                h *= 31;
            }
        }
        return h;
    }

    // ---- what an object is used for

    /** One object for the whole case: the cases above read each ROW and BOARD by further calls. */
    private static void allCalls() {
        edges.under("What it is: at most 512 calls");
        edges.at("the 512th, after 511 that were refused").fresh().call(t -> {
            TowerBoards one = new TowerBoards();
            for (int i = 0; i < 511; i++) {
                one.tear(0);
            }
            return one.findings(NOTHING);
        }).answers(511);
        edges.at("the 512th, after 511 BOARDS").fresh().call(t -> {
            TowerBoards one = new TowerBoards();
            for (int i = 0; i < 511; i++) {
                one.ring(i % 12, 6, 63);
            }
            return one.count(4);
        }).answers(432);
        edges.at("the 512th, after 510 STANDS").fresh().call(t -> {
            TowerBoards one = new TowerBoards();
            one.ring(0, 6, 63);
            for (int i = 0; i < 510; i++) {
                one.stand(0, 4, i, 0);
            }
            return one.rank(0, 0);
        }).answers(509);
    }
}
