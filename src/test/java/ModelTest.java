import java.util.ArrayList;
import java.util.List;
import java.util.Random;

/** All promises: random runs of calls, each answer beside the model's; random texts, their FAULTS beside the model's. */
public final class ModelTest {
    private static final Check CHECK = new Check("ModelTest");
    private static final String[] KINDS = {"plain", "wet", "frail", "lashed"};
    private static final int[] ODD = {Integer.MIN_VALUE, -10000, -2, -1, 15, 16, 61, 99, 100, 101, 999, 1000, 9999,
        10000, 65536, 65537, Integer.MAX_VALUE};

    private final Random random;
    private final DayPort x = new DayPort();
    private final Model m = new Model();

    private ModelTest(long seed) {
        random = new Random(seed);
    }

    private int upTo(int most) {
        return random.nextInt(most + 1);
    }

    private int some(int low, int high) {
        return low + upTo(Math.max(0, high - low));
    }

    /** Mostly a number in bounds, at times one beyond, at times any. */
    private int arg(int low, int high) {
        int dice = upTo(39);
        if (dice == 0) {
            return ODD[upTo(ODD.length - 1)];
        }
        if (dice == 1) {
            return random.nextInt();
        }
        if (dice == 2) {
            return random.nextBoolean() ? low - 1 : high + 1;
        }
        return some(low, high);
    }

    // ---- texts

    private List<String> lines() {
        List<String> lines = new ArrayList<>();
        int ships = some(1, 3);
        int towns = some(1, 5);
        List<Integer> numbers = new ArrayList<>();
        for (int i = 1; i <= 99; i++) {
            numbers.add(i);
        }
        java.util.Collections.shuffle(numbers, random);
        int weightSpan = random.nextBoolean() ? 5 : 30;
        int sum = 0;
        int crates = 0;
        for (int s = 0; s < ships; s++) {
            int load = upTo(2) == 0 ? upTo(5) : some(3, 5);
            lines.add("ship s" + (char) ('a' + s) + " day " + upTo(random.nextBoolean() ? 60 : 5) + " chance "
                + (upTo(4) == 0 ? 100 * upTo(1) : upTo(100)) + " late " + some(1, random.nextBoolean() ? 30 : 4)
                + " says " + (random.nextBoolean() ? load : upTo(20)));
            for (int i = 0; i < load; i++) {
                int weighs = some(1, weightSpan);
                sum += random.nextBoolean() ? weighs : 2 * weighs;
                String name = "c" + (char) ('a' + crates);
                lines.add("crate " + name + " " + KINDS[upTo(3)] + " on s" + (char) ('a' + s) + " stack " + upTo(2)
                    + " is " + numbers.get(crates) + " weighs " + weighs);
                if (upTo(5) == 0) {
                    lines.add("opened " + name + (random.nextBoolean() ? " night" : " day"));
                }
                crates++;
            }
        }
        for (int t = 0; t < towns; t++) {
            lines.add("town t" + (char) ('a' + t) + " people " + some(1, random.nextBoolean() ? 99 : 3));
        }
        int roads = 0;
        for (int a = 0; a < towns; a++) {
            for (int b = 0; b < a; b++) {
                if (roads < 8 && upTo(2) > 0) {
                    boolean turn = random.nextBoolean();
                    lines.add("road t" + (char) ('a' + (turn ? a : b)) + " t" + (char) ('a' + (turn ? b : a)) + " days "
                        + some(1, random.nextBoolean() ? 9 : 2));
                    roads++;
                }
            }
        }
        lines.add(0, "port straw " + Math.min(999, sum) + " wage " + some(1, 99) + " gang " + upTo(30) + " council "
            + upTo(30));
        return lines;
    }

    private String text() {
        String text = String.join(random.nextBoolean() ? ";" : " ; ", lines());
        for (int i = 0; i < 50 && text.length() > 1000; i++) {
            text = String.join(";", lines());
        }
        return text.length() <= 1000 ? text : text.substring(0, 1000);
    }

    /** A text with something changed at one place or two. */
    private String spoilt() {
        List<String> lines = lines();
        int turns = some(1, 2);
        for (int i = 0; i < turns; i++) {
            int at = upTo(lines.size() - 1);
            switch (upTo(6)) {
                case 0 -> lines.remove(at);
                case 1 -> lines.add(upTo(lines.size()), lines.get(at));
                case 2 -> {
                    String moved = lines.remove(at);
                    lines.add(upTo(lines.size()), moved);
                }
                case 3 -> lines.set(at, lines.get(at).replaceAll("[0-9]+", "" + upTo(random.nextBoolean() ? 35 : 1100)));
                default -> lines.set(at, spoiltLine(lines.get(at)));
            }
            if (lines.isEmpty()) {
                return "";
            }
        }
        String text = String.join(";", lines);
        if (upTo(9) == 0) {
            text = text.substring(0, upTo(text.length()));
        }
        return text.length() > 1000 ? text.substring(0, 1000) : text;
    }

    private String spoiltLine(String line) {
        String[] words = line.split(" ");
        String[] others = {"port", "ship", "crate", "town", "road", "opened", "day", "night", "wet", "sa", "sb", "sc",
            "ta", "tb", "te", "ca", "cb", "zz", "0", "1", "2", "7", "31", "61", "100", "101", "999", "1000", ";", "",
            "abcdefgh", "abcdefghi", "A", "-", "\u00e9", "\u0000"};
        int at = upTo(words.length - 1);
        words[at] = upTo(3) == 0 ? words[at] + others[upTo(others.length - 1)] : others[upTo(others.length - 1)];
        return String.join(" ", words);
    }

    private void same(String call, long got, long want) {
        CHECK.due(call, got, want);
        CHECK.due("trouble of " + call, x.trouble(), m.trouble());
    }

    private void tell(String text, int n) {
        for (int[] row : Check.rows(text)) {
            same("feed", x.feed(row[0], row[1], row[2], row[3], row[4]),
                m.feed(row[0], row[1], row[2], row[3], row[4]));
        }
        same("port of " + text, x.port(n), m.port(n));
        CHECK.due("fault of " + text, x.fault(), m.fault());
        CHECK.due("where of " + text, x.where(), m.where());
    }

    // ---- calls

    private int flag(boolean b) {
        return b ? 1 : 0;
    }

    private int led(int i) {
        try {
            return x.led(i);
        } catch (java.util.NoSuchElementException e) {
            return -1;
        }
    }

    private void act() {
        int a = arg(0, m.size(2) - 1);
        int b = arg(0, 2);
        int c = random.nextBoolean() ? 3 : arg(0, 3);
        switch (upTo(11)) {
            case 0, 1, 2, 3, 4, 5 -> same("lift " + a + " " + b + " " + c, x.lift(a, b, c), m.lift(a, b, c));
            case 6, 7 -> same("dawn", x.dawn(), m.dawn());
            case 8 -> {
                int crate = arg(0, m.size(3) - 1);
                boolean night = random.nextBoolean();
                same("open " + crate, flag(x.open(crate, night)), flag(m.open(crate, night)));
            }
            case 9 -> same("undo", flag(x.undo()), flag(m.undo()));
            case 10 -> same("image", x.image(), m.image());
            default -> {
                int image = arg(0, 2);
                if (upTo(2) == 0) {
                    same("back " + image, flag(x.back(image)), flag(m.back(image)));
                } else {
                    same("dawn", x.dawn(), m.dawn());
                }
            }
        }
    }

    private void askNow() {
        int a = arg(0, 2);
        int b = arg(0, 2);
        int c = arg(0, 4);
        int day = arg(0, 12);
        int n = arg(1, 99);
        switch (upTo(8)) {
            case 0 -> {
                int crate = arg(0, 14);
                int what = arg(0, 6);
                same("crate " + crate + " " + what, x.crate(crate, what), m.crate(crate, what));
            }
            case 1 -> same("high " + a + " " + b, x.high(a, b), m.high(a, b));
            case 2 -> same("lies " + a + " " + b + " " + c, x.lies(a, b, c), m.lies(a, b, c));
            case 3 -> same("quay " + c, x.quay(c), m.quay(c));
            case 4 -> same("next", x.next(), m.next());
            case 5 -> same("had " + day, x.had(day), m.had(day));
            case 6 -> same("hadOn " + n, x.hadOn(n), m.hadOn(n));
            case 7 -> same("missing", x.missing(), m.missing());
            default -> same("evenings", x.evenings(), m.evenings());
        }
    }

    private void askShips() {
        int ship = arg(0, 2);
        int day = arg(0, 99);
        boolean lower = random.nextBoolean();
        switch (upTo(9)) {
            case 0 -> same("judge", x.judge(), m.judge());
            case 1 -> same("come " + ship + " " + day, x.come(ship, day, lower), m.come(ship, day, lower));
            case 2 -> same("allCome " + day, x.allCome(day, lower), m.allCome(day, lower));
            case 3 -> same("sure " + day, x.sure(day), m.sure(day));
            case 4 -> same("mean " + ship, x.mean(ship, lower), m.mean(ship, lower));
            case 5 -> same("weight " + ship, x.weight(ship), m.weight(ship));
            case 6 -> same("heaviest " + ship, x.heaviest(ship), m.heaviest(ship));
            case 7 -> same("wrongly " + ship, x.wrongly(ship), m.wrongly(ship));
            default -> {
                if (upTo(3) == 0) {
                    same("fewest " + ship, x.fewest(ship), m.fewest(ship));
                    int i = arg(0, 9);
                    same("liftAt " + ship + " " + i, x.liftAt(ship, i), m.liftAt(ship, i));
                }
            }
        }
    }

    private void askNight() {
        switch (upTo(4)) {
            case 0 -> same("fits", x.fits(), m.fits());
            case 1 -> same("could", x.could(), m.could());
            case 2 -> same("surely", x.surely(), m.surely());
            case 3 -> same("ask", x.ask(), m.ask());
            default -> same("askLeaves", x.askLeaves(), m.askLeaves());
        }
    }

    private void askTowns() {
        int town = arg(0, 4);
        int i = arg(0, 4);
        int minutes = arg(0, 9999);
        int day = arg(0, random.nextBoolean() ? 30 : 999);
        int n = upTo(1) == 0 ? arg(1, 99) : m.had(upTo(5));
        switch (upTo(5)) {
            case 0 -> same("share " + town + " " + minutes, x.share(town, minutes), m.share(town, minutes));
            case 1 -> same("late " + town, x.late(town), m.late(town));
            case 2 -> same("farthest", x.farthest(), m.farthest());
            case 3 -> same("wayAt " + town + " " + i, x.wayAt(town, i), m.wayAt(town, i));
            case 4 -> same("inland " + town + " " + n, x.inland(town, n), m.inland(town, n));
            default -> same("people " + n + " " + day, x.people(n, day), m.people(n, day));
        }
    }

    private void askOthers() {
        int a = arg(0, 9);
        int b = arg(0, 9);
        boolean flag = random.nextBoolean();
        int seed = arg(0, 65536);
        int ship = arg(0, 2);
        int n = arg(1, 60);
        int what = arg(0, 12);
        switch (upTo(6)) {
            case 0 -> same("strike " + a + " " + b, x.strike(a, b, flag), m.strike(a, b, flag));
            case 1 -> same("rests", x.rests(), m.rests());
            case 2 -> same("rest " + n, x.rest(n / 4), m.rest(n / 4));
            case 3 -> same("winter " + seed, x.winter(seed), m.winter(seed));
            case 4 -> same("lates " + ship + " " + seed + " " + n, x.lates(ship, seed, n), m.lates(ship, seed, n));
            case 5 -> same("led " + a, led(a / 3), m.led(a / 3));
            default -> same("size " + what, x.size(what), m.size(what));
        }
    }

    private void run() {
        for (int calls = upTo(4); calls < 380; calls++) {
            switch (calls < 3 || upTo(150) == 0 ? 9 : upTo(8)) {
                case 0, 1, 2 -> act();
                case 3 -> askNow();
                case 4 -> askShips();
                case 5 -> askNight();
                case 6 -> askTowns();
                case 7 -> askOthers();
                case 8 -> {
                    askNow();
                    CHECK.due("where", x.where(), m.where());
                }
                default -> {
                    String text = upTo(4) == 0 ? spoilt() : text();
                    tell(text, upTo(9) == 0 ? arg(0, text.length()) : text.length());
                }
            }
        }
    }

    private void faults() {
        for (int i = 0; i < 8; i++) {
            String text = spoilt();
            tell(text, text.length());
        }
    }

    public static void main(String[] args) {
        for (long seed = 0; seed < 400; seed++) {
            new ModelTest(seed).run();
        }
        for (long seed = 0; seed < 5000; seed++) {
            new ModelTest(1000 + seed).faults();
        }
        CHECK.end();
    }
}
