import java.lang.reflect.InvocationTargetException;
import java.lang.reflect.Method;
import java.util.ArrayList;
import java.util.Arrays;
import java.util.Comparator;
import java.util.HashMap;
import java.util.List;
import java.util.Map;
import java.util.Random;

/** Runs of calls drawn by a fixed seed, held against the plain model: each answer, and all that is told after it. */
public final class RandomRunsTest {
    private static final int RUNS = 400;
    private static final int CALLS = 220;
    private static final int[] EXTREMES = {
        Integer.MIN_VALUE, Integer.MIN_VALUE + 1, -1001, -1000, -51, -10, -9, -2, -1, 11, 12, 31, 32, 33, 36, 37, 51, 63,
        64, 1000, 1001, Integer.MAX_VALUE - 1, Integer.MAX_VALUE};
    private static final Due due = new Due();
    private static final Map<String, Integer> answered = new HashMap<>();

    private final Random random;
    private final TowerBoards t = new TowerBoards();
    private final PlainModel model = new PlainModel();
    private final List<String> calls = new ArrayList<>();
    private boolean isRight = true;

    private RandomRunsTest(long seed) {
        random = new Random(seed);
    }

    public static void main(String[] args) throws Exception {
        Method[] methods = Arrays.stream(TowerBoards.class.getDeclaredMethods())
            .filter(m -> java.lang.reflect.Modifier.isPublic(m.getModifiers()))
            .sorted(Comparator.comparing(Method::getName)).toArray(Method[]::new);
        for (int run = 0; run < RUNS; run++) {
            due.part("run " + run);
            RandomRunsTest one = new RandomRunsTest(run);
            for (int i = 0; i < CALLS && one.isRight; i++) {
                one.step(methods);
            }
            if (!one.isRight) {
                System.out.println(String.join("\n", one.calls));
                break;
            }
        }
        for (Method method : methods) {
            due.isTrue(method.getName() + " was not refused at times", answered.getOrDefault(method.getName(), 0) > 20);
        }
        due.end();
    }

    private void step(Method[] methods) throws Exception {
        int what = random.nextInt(10);
        if (what == 0) {
            makeBoard();
        } else if (what == 1) {
            makeWeights();
        } else if (what == 2) {
            makeStand();
        } else {
            Method method = methods[random.nextInt(methods.length)];
            call(method.getName(), draw(method));
        }
    }

    private void makeBoard() throws Exception {
        int r = random.nextInt(8);
        int b = random.nextInt(12);
        int h = 1 + random.nextInt(random.nextBoolean() ? 4 : 6);
        int v = random.nextBoolean() ? h : 1 + random.nextInt(6);
        int density = random.nextInt(4);
        boolean isStairs = random.nextInt(3) == 0;
        int before = 0;
        call("row", r, h);
        for (int i = 0; i < h; i++) {
            before = Math.min(v, before + random.nextInt(3));
            int cells = random.nextInt(1 << v);
            if (density == 0) {
                cells &= random.nextInt(1 << v);
            } else if (density == 1) {
                cells |= random.nextInt(1 << v);
            }
            call("lay", r, i, isStairs ? before : cells);
        }
        call(isStairs ? "stairs" : "board", b, v, r);
    }

    private void makeWeights() throws Exception {
        int b = random.nextInt(12);
        int r = random.nextInt(8);
        int range = random.nextBoolean() ? 3 : 1000;
        if (call("told", b, 1) != 1) {
            return;
        }
        int h = t.asked();
        call("told", b, 2);
        int v = t.asked();
        call("row", r, h * v);
        for (int i = 0; i < h * v; i++) {
            call("lay", r, i, random.nextInt(2 * range + 1) - range);
        }
        call("least", b, r);
        for (int i = 0; i < 4; i++) {
            call("lack", b, r, random.nextInt(h), random.nextInt(v));
        }
    }

    private void makeStand() throws Exception {
        int b = random.nextInt(12);
        int r = random.nextInt(8);
        int k = random.nextInt(7);
        call("towers", b, k);
        int number = (int) Math.min(Integer.MAX_VALUE, Math.max(1, t.ways()));
        call("stand", b, k, random.nextInt(number), r);
        for (int i = 0; i < 3; i++) {
            call("rank", b, r);
            call("ringOf", b, r, random.nextInt(3));
            call("next", b, r);
        }
    }

    private Object[] draw(Method method) {
        Class<?>[] types = method.getParameterTypes();
        Object[] drawn = new Object[types.length];
        for (int i = 0; i < drawn.length; i++) {
            drawn[i] = types[i] == boolean.class ? (Object) random.nextBoolean() : (Object) drawInt();
        }
        return drawn;
    }

    private int drawInt() {
        int how = random.nextInt(40);
        if (how == 0) {
            return EXTREMES[random.nextInt(EXTREMES.length)];
        }
        return how == 1 ? random.nextInt(80) - 20 : random.nextInt(how < 10 ? 8 : 5);
    }

    private long call(String name, Object... arguments) throws Exception {
        calls.add(name + Arrays.toString(arguments));
        long got = invoke(t, name, arguments);
        long want = invoke(model, name, arguments);
        look(name + Arrays.toString(arguments), got, want);
        if (got != TowerBoards.BAD && got != TowerBoards.FINDING) {
            answered.merge(name, 1, Integer::sum);
        }
        for (String told : new String[] {"ways", "asked", "upper", "lower", "finding", "digest"}) {
            look(told + " after " + name, invoke(t, told), invoke(model, told));
        }
        for (int f = 1; f <= 5; f++) {
            look("findings(" + f + ") after " + name, t.findings(f), model.findings(f));
        }
        for (int what = 0; what <= 4; what++) {
            look("count(" + what + ") after " + name, t.count(what), model.count(what));
        }
        return got;
    }

    private void look(String what, long got, long want) {
        due.is(what, got, want);
        isRight &= got == want;
    }

    private static long invoke(Object object, String name, Object... arguments) throws Exception {
        Class<?>[] types = new Class<?>[arguments.length];
        for (int i = 0; i < types.length; i++) {
            types[i] = arguments[i] instanceof Boolean ? boolean.class : int.class;
        }
        try {
            return ((Number) object.getClass().getMethod(name, types).invoke(object, arguments)).longValue();
        } catch (InvocationTargetException e) {
            throw new IllegalStateException(name + Arrays.toString(arguments) + " threw", e.getCause());
        }
    }
}
