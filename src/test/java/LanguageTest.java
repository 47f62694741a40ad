import java.nio.charset.StandardCharsets;
import java.nio.file.Files;
import java.nio.file.Path;
import java.util.Arrays;
import java.util.HashSet;
import java.util.List;
import java.util.Set;
import java.util.regex.Matcher;
import java.util.regex.Pattern;

/** What can be seen in the text of the class of LANGUAGE.md's rules. */
public final class LanguageTest {
    private static final Path SOURCE = Path.of("src/main/java/TowerBoards.java");
    private static final String[] FORBIDDEN = {
        "throw", "throws", "try", "catch", "synchronized", "assert", "package", "native", "volatile", "transient",
        "double", "float", "hashCode", "toString", "getClass", "Thread", "Random", "System.out", "System.err",
        "currentTimeMillis", "nanoTime", "Exact", "protected"};
    private static final Set<String> LIBRARY = new HashSet<>(Arrays.asList(
        "Arrays.fill", "System.arraycopy", "Integer.bitCount", "Integer.numberOfTrailingZeros",
        "Integer.lowestOneBit", "Math.max"));
    private static final Due due = new Due();

    public static void main(String[] args) throws Exception {
        due.part("language");
        String text = new String(Files.readAllBytes(SOURCE), StandardCharsets.ISO_8859_1);
        String code = text.replaceAll("(?s)/\\*.*?\\*/", "").replaceAll("//[^\\n]*", "");
        words(code);
        library(code);
        newOnlyWhereBoundOnce(code);
        methodsAreShort(code);
        due.end();
    }

    private static void words(String code) {
        for (String word : FORBIDDEN) {
            due.isTrue("no " + word, !Pattern.compile("\\b" + Pattern.quote(word) + "\\b").matcher(code).find());
        }
        due.isTrue("no lambda", !code.contains("->"));
        due.isTrue("no method reference", !code.contains("::"));
        due.isTrue("no text", code.indexOf('"') < 0);
    }

    private static void library(String code) {
        Matcher imports = Pattern.compile("import ([\\w.]+);").matcher(code);
        while (imports.find()) {
            due.isTrue("import " + imports.group(1), imports.group(1).equals("java.util.Arrays"));
        }
        Matcher calls = Pattern.compile("\\b(Arrays|System|Integer|Long|Math|String|List|ArrayList)\\.(\\w+)")
            .matcher(code.replace("java.util.Arrays", ""));
        while (calls.find()) {
            due.isTrue("call " + calls.group(), LIBRARY.contains(calls.group()));
        }
    }

    /** Objects are made when an object begins, so that no run of calls fills the room. */
    private static void newOnlyWhereBoundOnce(String code) {
        List<String> lines = Arrays.asList(code.split("\n"));
        for (String line : lines) {
            if (line.contains("new ")) {
                String plain = line.trim();
                boolean isField = plain.contains("final ") && plain.contains(" = new ");
                boolean isInConstructor = plain.equals("rows[r] = new Row();") || plain.equals("boards[b] = new Board();");
                due.isTrue("made once: " + plain, isField || isInConstructor);
            }
        }
    }

    private static void methodsAreShort(String code) {
        int depth = 0;
        int begin = 0;
        String[] lines = code.split("\n");
        for (int i = 0; i < lines.length; i++) {
            boolean opens = lines[i].endsWith(") {") && lines[i].matches("( {4}| {8})\\w.*");
            if (opens && !lines[i].trim().matches("(if|for|while|switch)\\b.*")) {
                begin = i;
                depth = lines[i].length() - lines[i].trim().length();
            }
            if (begin > 0 && lines[i].equals(" ".repeat(depth) + "}")) {
                due.isTrue("short: " + lines[begin].trim() + " " + (i - begin), i - begin < 60);
                begin = 0;
            }
        }
    }
}
