import java.util.ArrayList;
import java.util.List;
import java.util.Random;

/** Promises 22 and 23 once more: every way to lay up to four crates, and many of five, beside the model's search. */
public final class OutTest {
    private static final Check CHECK = new Check("OutTest");
    private static final String[] KINDS = {"plain", "frail", "lashed"};

    private static String text(List<Integer> numbers, int low, int middle, int kinds) {
        StringBuilder text = new StringBuilder(Check.PORT + ";" + Check.SHIP);
        int rest = kinds;
        for (int i = 0; i < numbers.size(); i++) {
            int stack = i < low ? 0 : i < low + middle ? 1 : 2;
            text.append(";crate c").append((char) ('a' + i)).append(' ').append(KINDS[rest % 3]).append(" on s stack ");
            text.append(stack).append(" is ").append(numbers.get(i)).append(" weighs 1");
            rest /= 3;
        }
        return text.append(';').append(Check.TOWN).toString();
    }

    private static void compare(String text) {
        DayPort x = Check.of(text);
        Model m = new Model();
        for (int[] row : Check.rows(text)) {
            m.feed(row[0], row[1], row[2], row[3], row[4]);
        }
        m.port(text.length());
        int fewest = m.fewest(0);
        CHECK.due(text + ": fewest", x.fewest(0), fewest);
        int lifts = -1;
        for (int i = 0; i == 0 || lifts >= 0; i++) {
            lifts = m.liftAt(0, i);
            CHECK.due(text + ": liftAt(" + i + ")", x.liftAt(0, i), lifts);
        }
        CHECK.due(text + ": trouble", x.trouble(), m.trouble());
    }

    private static void all(List<Integer> numbers, int most) {
        for (int low = 0; low <= numbers.size(); low++) {
            for (int middle = 0; low + middle <= numbers.size(); middle++) {
                for (int kinds = 0; kinds < Math.pow(3, numbers.size()); kinds++) {
                    compare(text(numbers, low, middle, kinds));
                }
            }
        }
        if (numbers.size() < most) {
            for (int n = 1; n <= most; n++) {
                if (!numbers.contains(n)) {
                    List<Integer> more = new ArrayList<>(numbers);
                    more.add(n);
                    all(more, most);
                }
            }
        }
    }

    public static void main(String[] args) {
        all(new ArrayList<>(), 3);
        Random random = new Random(7);
        for (int i = 0; i < 1500; i++) {
            List<Integer> numbers = new ArrayList<>(List.of(10, 20, 30, 40, 50));
            java.util.Collections.shuffle(numbers, random);
            int size = i % 3 == 0 ? 4 : 5;
            int low = random.nextInt(size + 1);
            compare(text(numbers.subList(0, size), low, random.nextInt(size - low + 1), random.nextInt(243)));
        }
        CHECK.end();
    }
}
