import java.lang.reflect.Method;
import java.lang.reflect.Modifier;
import java.nio.charset.StandardCharsets;
import java.nio.file.Files;
import java.nio.file.Path;
import java.util.HashMap;
import java.util.Map;
import java.util.TreeSet;
import java.util.regex.Matcher;
import java.util.regex.Pattern;
import java.util.stream.Stream;

/** README.md answers as the class does, and names every call and every test. */
public final class ReadmeTest {
    private static final Path README = Path.of("README.md");
    private static final Path TESTS = Path.of("src/test/java");
    private static final Pattern EXAMPLE = Pattern.compile("t\\.(\\w+)\\((.*?)\\);\\s*// (-?\\d+):.*");
    private static final Due due = new Due();

    public static void main(String[] args) throws Exception {
        due.part("README.md");
        String text = new String(Files.readAllBytes(README), StandardCharsets.US_ASCII);
        examples(text);
        calls(text);
        tests(text);
        due.end();
    }

    private static Map<String, Method> face() {
        Map<String, Method> calls = new HashMap<>();
        for (Method method : TowerBoards.class.getDeclaredMethods()) {
            if (Modifier.isPublic(method.getModifiers())) {
                calls.put(method.getName(), method);
            }
        }
        return calls;
    }

    /** Each line of an example says what its call answers; all lines are calls on one object. */
    private static void examples(String text) throws Exception {
        Map<String, Method> face = face();
        TowerBoards t = new TowerBoards();
        int lines = 0;
        for (String line : text.split("\n")) {
            if (line.startsWith("t.")) {
                lines++;
                Matcher example = EXAMPLE.matcher(line);
                due.isTrue("an example says what it answers: " + line, example.matches());
                if (example.matches()) {
                    Method method = face.get(example.group(1));
                    long got = ((Number) method.invoke(t, numbersOf(example.group(2)))).longValue();
                    due.is(line, got, Long.parseLong(example.group(3)));
                }
            }
        }
        due.isTrue("there are examples", lines > 0);
    }

    private static Object[] numbersOf(String arguments) {
        if (arguments.isEmpty()) {
            return new Object[0];
        }
        return Stream.of(arguments.split(", ")).map(Integer::valueOf).toArray();
    }

    private static void calls(String text) {
        for (String name : new TreeSet<>(face().keySet())) {
            due.isTrue("it names " + name, Pattern.compile("`" + name + "\\(").matcher(text).find());
        }
    }

    private static void tests(String text) throws Exception {
        try (Stream<Path> files = Files.list(TESTS)) {
            for (Path file : files.sorted().toArray(Path[]::new)) {
                String name = file.getFileName().toString().replace(".java", "");
                due.isTrue("it names " + name, text.contains("`" + name + "`"));
            }
        }
    }
}
