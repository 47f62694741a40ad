import java.lang.reflect.Constructor;
import java.lang.reflect.Field;
import java.lang.reflect.Method;
import java.lang.reflect.Modifier;
import java.util.Arrays;
import java.util.Set;
import java.util.TreeSet;
import java.util.stream.Collectors;

/** The public face is the document's, and nothing more is to be seen. */
public final class FaceTest {
    private static final String[] CALLS = {
        "int row(int, int)", "int lay(int, int, int)", "int tear(int)", "int copy(int, int, int, int, int)",
        "int mean(int)", "int board(int, int, int)", "int stairs(int, int, int)", "int ring(int, int, int)",
        "int drop(int)", "int told(int, int)", "int is(int, int)", "int mark(int, int)", "int cell(int, int, int)",
        "int set(int, int, int, boolean)", "int other(int, int)", "int turn(int, int)",
        "int without(int, int, int, int)", "int join(int, int, int)", "int towers(int, int)", "int hits(int, int)",
        "int meanHits(int)", "int alike(int, int)", "int stairsLike(int, int)", "int sum(int, int)",
        "int root(int, int)", "int spread(int, int, int)", "int stand(int, int, int, int)", "int rank(int, int)",
        "int next(int, int)", "int most(int)", "int cover(int)", "int need(int, int, int)", "int least(int, int)",
        "int lack(int, int, int, int)", "int rounds(int, int, int)", "int longRings(int, int)",
        "int ringOf(int, int, int)", "int slants(int, int)", "long ways()", "int asked()", "long upper()",
        "long lower()", "int count(int)", "int finding()", "int findings(int)", "long digest()"};
    private static final Due due = new Due();

    public static void main(String[] args) {
        due.part("face");
        due.is("BAD", TowerBoards.BAD, -1);
        due.is("FULL", TowerBoards.FULL, -2);
        due.is("FINDING", TowerBoards.FINDING, -3);
        due.is("STATE", TowerBoards.STATE, -4);
        due.is("NONE", TowerBoards.NONE, -9);
        due.is("public and final", TowerBoards.class.getModifiers(), Modifier.PUBLIC | Modifier.FINAL);
        constructors();
        fields();
        methods();
        classesInside();
        due.end();
    }

    private static boolean isHidden(int modifiers) {
        return Modifier.isPrivate(modifiers);
    }

    private static void constructors() {
        Constructor<?>[] all = TowerBoards.class.getDeclaredConstructors();
        due.is("constructors", all.length, 1);
        due.is("its parameters", all[0].getParameterCount(), 0);
        due.isTrue("it is public", Modifier.isPublic(all[0].getModifiers()));
    }

    private static void fields() {
        Set<String> constants = new TreeSet<>();
        for (Field field : TowerBoards.class.getDeclaredFields()) {
            if (!isHidden(field.getModifiers())) {
                constants.add(Modifier.toString(field.getModifiers()) + " " + field.getType() + " " + field.getName());
            }
            if (Modifier.isStatic(field.getModifiers())) {
                due.isTrue(field.getName() + " is final", Modifier.isFinal(field.getModifiers()));
            }
        }
        due.isTrue("constants " + constants, constants.equals(new TreeSet<>(Arrays.asList(
            "public static final int BAD", "public static final int FULL", "public static final int FINDING",
            "public static final int STATE", "public static final int NONE"))));
    }

    private static void methods() {
        Set<String> seen = new TreeSet<>();
        Set<String> names = new TreeSet<>();
        for (Method method : TowerBoards.class.getDeclaredMethods()) {
            if (!method.isSynthetic() && !isHidden(method.getModifiers())) {
                due.is(method.getName() + " is public alone", method.getModifiers(), Modifier.PUBLIC);
                seen.add(method.getReturnType() + " " + method.getName() + Arrays.stream(method.getParameterTypes())
                    .map(Class::getName).collect(Collectors.joining(", ", "(", ")")));
                names.add(method.getName());
            }
        }
        due.isTrue("calls " + seen, seen.equals(new TreeSet<>(Arrays.asList(CALLS))));
        for (Method method : TowerBoards.class.getDeclaredMethods()) {
            if (isHidden(method.getModifiers())) {
                due.isTrue("private " + method.getName(), !names.contains(method.getName()));
            }
        }
        for (Class<?> inside : TowerBoards.class.getDeclaredClasses()) {
            for (Method method : inside.getDeclaredMethods()) {
                due.isTrue(inside.getName() + " " + method.getName(), !names.contains(method.getName()));
            }
        }
    }

    private static void classesInside() {
        Class<?>[] inside = TowerBoards.class.getDeclaredClasses();
        due.isTrue("twelve classes at most", inside.length < 12);
        for (Class<?> one : inside) {
            due.isTrue(one.getName() + " is static", Modifier.isStatic(one.getModifiers()));
            due.isTrue(one.getName() + " is not public", !Modifier.isPublic(one.getModifiers()));
            due.isTrue(one.getName() + " is not protected", !Modifier.isProtected(one.getModifiers()));
        }
    }
}
