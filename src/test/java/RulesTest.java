import java.io.IOException;
import java.nio.file.Files;
import java.nio.file.Path;
import java.util.List;

/** What can be seen of LANGUAGE.md's rules in the text of the class itself. */
public final class RulesTest {
    private static final Check CHECK = new Check("RulesTest");
    private static final String[] FORBIDDEN = {"->", "::", "synchronized", "assert ", "finally", "catch", "try ", "Exact",
        "getMessage", "static {", "hashCode", "toString", "System.out", "nanoTime", "Random", "Thread", "record ",
        "protected ", "var ", "[][][]"};

    private static void words(List<String> lines) {
        for (int i = 0; i < lines.size(); i++) {
            String code = lines.get(i).strip();
            if (code.startsWith("//") || code.startsWith("/*") || code.startsWith("*")) {
                continue;
            }
            for (String word : FORBIDDEN) {
                CHECK.due("line " + (i + 1) + " has " + word, code.contains(word), false);
            }
            CHECK.due("line " + (i + 1) + " joins texts by +", code.contains("\" +") || code.contains("+ \""), false);
            CHECK.due("line " + (i + 1) + " imports", code.startsWith("import ")
                && !code.equals("import java.util.NoSuchElementException;"), false);
            CHECK.due("line " + (i + 1) + " throws", code.startsWith("throw ")
                && !code.startsWith("throw new NoSuchElementException("), false);
        }
    }

    /** Methods stay short: from a line that opens one to the brace that stands below its first letter. */
    private static void lengths(List<String> lines) {
        for (int i = 0; i < lines.size(); i++) {
            String line = lines.get(i);
            String indent = line.substring(0, line.length() - line.stripLeading().length());
            boolean opens = line.endsWith(") {") && !indent.isEmpty() && indent.length() <= 8
                && !line.strip().matches("(if|for|while|switch|\\}).*");
            if (opens) {
                int end = i;
                while (!lines.get(end).equals(indent + "}")) {
                    end++;
                }
                CHECK.due("line " + (i + 1) + " opens a short method", end - i <= 60, true);
            }
        }
    }

    public static void main(String[] args) throws IOException {
        List<String> lines = Files.readAllLines(Path.of("src/main/java/DayPort.java"));
        words(lines);
        lengths(lines);
        CHECK.end();
    }
}
