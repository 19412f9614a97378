import java.io.IOException;
import java.nio.file.Files;
import java.nio.file.Path;
import java.util.ArrayList;
import java.util.List;
import java.util.stream.Stream;

/** README.md: its example is run here, line by line as it stands there; every test has its row in the table. */
public final class ReadmeTest {
    private static final Check CHECK = new Check("ReadmeTest");

    static int tell(DayPort x, String text) {
        int[] five = new int[5];
        for (int i = 0; i < (text.length() + 19) / 20 * 20; i++) {
            int sign = i < text.length() ? text.charAt(i) : ' ';
            five[i % 20 / 4] = five[i % 20 / 4] << 8 | sign;
            if (i % 20 == 19) {
                x.feed(five[0], five[1], five[2], five[3], five[4]);
            }
        }
        return x.port(text.length());
    }

    private static void example() {
        DayPort x = new DayPort();
        int crates = tell(x, "port straw 15 wage 20 gang 3 council 4;"
            + "ship ark day 2 chance 20 late 5 says 4;"
            + "crate mon plain on ark stack 0 is 1 weighs 4;"
            + "crate tue wet on ark stack 0 is 2 weighs 5;"
            + "crate wed lashed on ark stack 1 is 3 weighs 2;"
            + "town harb people 50; town hill people 30; road harb hill days 2;"
            + "opened wed day");                        // 3
        int liar = x.judge();                           // 0: ark says 4
        long upper = x.come(0, 2, false);               // 4, and x.come(0, 2, true) 5: four fifths
        int contraband = x.surely();                    // 1: bit 0, mon
        int lifts = x.fewest(0);                        // 5: tue aside, mon, tue, and wed, which counts two
        while (x.fewest(0) > 0) {
            int lift = x.liftAt(0, 0);                  // 10 times from, and to
            x.lift(0, lift / 10, lift % 10);
        }
        int first = x.dawn();                           // 1: mon's NUMBER
        int second = x.dawn();                          // 2: tue was wet for one DAWN
        int hill = x.inland(1, 2);                      // 3: HAD on day 1, and two days by road
        boolean undone = x.undo();                      // true: it is day 1 again
        int refused = x.high(0, 3);                     // -1, and x.trouble() 1: there is none such
        CHECK.refused(x, "high(0, 3)", refused, -1, 1);
        CHECK.due("crates", crates, 3);
        CHECK.due("liar", liar, 0);
        CHECK.due("upper", upper, 4);
        CHECK.due("lower", x.come(0, 2, true), 5);
        CHECK.due("contraband", contraband, 1);
        CHECK.due("lifts", lifts, 5);
        CHECK.due("lifts so far", x.size(8), 5);
        CHECK.due("first", first, 1);
        CHECK.due("second", second, 2);
        CHECK.due("hill", hill, 3);
        CHECK.due("undone", undone, true);
        CHECK.due("the day", x.size(7), 1);
    }

    private static void spoiltText() {
        DayPort x = new DayPort();
        int crates = tell(x, "port straw 15 wage 0");   // -1: x.trouble() 4, x.fault() 4, x.where() 19
        CHECK.refused(x, "wage 0", crates, -1, 4);
        CHECK.due("fault", x.fault(), 4);
        CHECK.due("where", x.where(), 19);
    }

    /** The lines of README.md's blocks of Java, without what stands around them. */
    private static List<String> shown(List<String> readme) {
        List<String> shown = new ArrayList<>();
        boolean inside = false;
        for (String line : readme) {
            if (line.startsWith("```")) {
                inside = line.equals("```java");
            } else if (inside && !line.isBlank()) {
                shown.add(line.strip());
            }
        }
        return shown;
    }

    private static void asShown(List<String> readme) throws IOException {
        List<String> run = new ArrayList<>();
        for (String line : Files.readAllLines(Path.of("src/test/java/ReadmeTest.java"))) {
            run.add(line.strip());
        }
        List<String> shown = shown(readme);
        CHECK.due("README.md shows an example", shown.size() > 20, true);
        int from = 0;
        for (String line : shown) {
            int at = run.subList(from, run.size()).indexOf(line);
            CHECK.due("README.md shows what is run: " + line, at >= 0, true);
            from += Math.max(0, at + 1);
        }
    }

    private static void table(List<String> readme) throws IOException {
        String all = String.join("\n", readme);
        try (Stream<Path> files = Files.list(Path.of("src/test/java"))) {
            files.map(file -> file.getFileName().toString().replace(".java", "")).filter(name -> name.endsWith("Test"))
                .forEach(name -> CHECK.due("README.md names " + name, all.contains("`" + name + "`"), true));
        }
    }

    public static void main(String[] args) throws IOException {
        List<String> readme = Files.readAllLines(Path.of("README.md"));
        example();
        spoiltText();
        asShown(readme);
        table(readme);
        CHECK.end();
    }
}
