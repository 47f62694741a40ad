import java.lang.reflect.Method;
import java.util.Arrays;
import java.util.HashMap;
import java.util.Map;

/** Every BOARD of at most three by three, and every RING: all that is counted and told of it, against the plain model. */
public final class AllSmallBoardsTest {
    private static final Due due = new Due();
    private static final Map<String, Method> ours = methodsOf(TowerBoards.class);
    private static final Map<String, Method> plain = methodsOf(PlainModel.class);

    private final int h;
    private final int v;
    private final int[] cells;
    private final int set;
    private TowerBoards t;
    private PlainModel model;

    private AllSmallBoardsTest(int h, int v, int[] cells, int set) {
        this.h = h;
        this.v = v;
        this.cells = cells;
        this.set = set;
    }

    public static void main(String[] args) throws Exception {
        for (int h = 1; h <= 3; h++) {
            for (int v = 1; v <= 3; v++) {
                for (int bits = 0; bits < 1 << (h * v); bits++) {
                    int[] cells = new int[h];
                    for (int i = 0; i < h; i++) {
                        cells[i] = (bits >> (i * v)) & ((1 << v) - 1);
                    }
                    new AllSmallBoardsTest(h, v, cells, 0).look();
                }
            }
        }
        for (int n = 1; n <= 6; n++) {
            for (int set = 0; set < 1 << n; set++) {
                new AllSmallBoardsTest(n, n, null, set).look();
            }
        }
        due.end();
    }

    private static Map<String, Method> methodsOf(Class<?> type) {
        Map<String, Method> methods = new HashMap<>();
        for (Method method : type.getDeclaredMethods()) {
            if (java.lang.reflect.Modifier.isPublic(method.getModifiers())) {
                methods.put(method.getName(), method);
            }
        }
        return methods;
    }

    private long both(String name, Object... arguments) throws Exception {
        long got = ((Number) ours.get(name).invoke(t, arguments)).longValue();
        long want = ((Number) plain.get(name).invoke(model, arguments)).longValue();
        if (got != want) {
            due.part("board " + h + " by " + v + " " + Arrays.toString(cells) + " ring " + set);
        }
        due.is(name + Arrays.toString(arguments), got, want);
        return got;
    }

    private void toldAlike() throws Exception {
        both("ways");
        both("asked");
    }

    /** The BOARD anew on new objects, since an object is good for 512 calls. */
    private void begin() throws Exception {
        t = new TowerBoards();
        model = new PlainModel();
        if (cells == null) {
            both("ring", 0, h, set);
            return;
        }
        both("row", 0, h);
        for (int i = 0; i < h; i++) {
            both("lay", 0, i, cells[i]);
        }
        both("board", 0, v, 0);
    }

    private void look() throws Exception {
        numbers();
        spread();
        stands();
        most();
        arrows();
        madeOfIt();
    }

    private void numbers() throws Exception {
        begin();
        for (int k = 0; k <= 7; k++) {
            both("towers", 0, k);
            toldAlike();
        }
        for (int k = 0; k <= 6; k++) {
            both("hits", 0, k);
            toldAlike();
        }
        for (int x : new int[] {-50, -3, -2, -1, 0, 1, 2, 3, 50}) {
            both("sum", 0, x);
            toldAlike();
        }
        both("meanHits", 0);
        both("upper");
        both("lower");
        for (int k = 0; k <= 11; k++) {
            if (k < 4 || h < 6 || set == 63) {
                both("slants", 0, k);
                toldAlike();
            }
        }
        if (h <= 3) {
            both("stairsLike", 0, 1);
            both("digest");
        }
    }

    private void spread() throws Exception {
        begin();
        for (int k = 0; k <= 3; k++) {
            for (int m = 0; m <= 9; m++) {
                both("spread", 0, k, h > 3 ? 3 * m : m);
                toldAlike();
            }
        }
    }

    private void stands() throws Exception {
        for (int k = 0; k <= 3; k++) {
            begin();
            both("stand", 0, k, 0, 2);
            int passed = 0;
            int answer = 1;
            while (answer == 1 && passed < 20) {
                both("rank", 0, 2);
                both("ringOf", 0, 2, 0);
                both("asked");
                both("ringOf", 0, 2, 1);
                both("asked");
                answer = (int) both("next", 0, 2);
                both("digest");
                passed++;
                both("stand", 0, k, passed, 3);
            }
        }
    }

    private void most() throws Exception {
        begin();
        both("most", 0);
        both("cover", 0);
        both("asked");
        both("row", 1, h * v);
        for (int i = 0; i < h * v; i++) {
            both("lay", 1, i, (i * 7 + h + set) % 5 - 2);
        }
        both("least", 0, 1);
        toldAlike();
        for (int i = 0; i < h; i++) {
            for (int j = 0; j < v; j++) {
                both("need", 0, i, j);
                both("lack", 0, 1, i, j);
            }
        }
        both("finding");
    }

    private void arrows() throws Exception {
        begin();
        for (int k = Math.max(0, h - 3); k <= h; k++) {
            for (int c = 0; c <= 6; c++) {
                both("rounds", 0, k, c);
                both("ways");
            }
        }
        for (int m = 1; m <= 6; m++) {
            both("longRings", 0, m);
            both("ways");
        }
    }

    private void madeOfIt() throws Exception {
        begin();
        both("other", 0, 1);
        both("turn", 0, 2);
        both("join", 0, 2, 3);
        both("alike", 0, 2);
        both("alike", 0, 1);
        both("digest");
        for (int i = 0; i < h; i++) {
            for (int j = 0; j < v; j++) {
                both("without", 0, i, j, 4);
                both("digest");
            }
        }
        both("turn", 0, 0);
        both("digest");
    }
}
