import java.util.ArrayList;
import java.util.Arrays;
import java.util.Collections;
import java.util.HashMap;
import java.util.List;
import java.util.Map;
import java.util.TreeMap;
import java.util.TreeSet;
import java.util.regex.Matcher;
import java.util.regex.Pattern;

/** The document once more, written as plainly and as unlike DayPort as can be: by lists, sets and trying all. */
final class Model {
    static final int NONE = -1;

    /** A FAULT of a text. */
    static final class Fault extends RuntimeException {
        private static final long serialVersionUID = 1L;
        final int number;
        final int place;

        Fault(int number, int place) {
            this.number = number;
            this.place = place;
        }
    }

    /** A text's lines as rows of numbers, by their sort. */
    static final class Told {
        int[] port = null;
        final List<int[]> ships = new ArrayList<>();
        final List<int[]> crates = new ArrayList<>();
        final List<int[]> towns = new ArrayList<>();
        final List<int[]> roads = new ArrayList<>();
        final Map<Integer, Boolean> opened = new TreeMap<>();
        final Map<String, String> sorts = new HashMap<>();
        final Map<String, Integer> numbers = new HashMap<>();
    }

    /** NOW. */
    static final class Now {
        final List<List<Integer>> stacks = new ArrayList<>();
        final List<Integer> quay = new ArrayList<>();
        final Map<Integer, Integer> came = new TreeMap<>();
        final List<Integer> had = new ArrayList<>();
        final Map<Integer, Integer> lifted = new TreeMap<>();
        final Map<Integer, Boolean> opened = new TreeMap<>();
        final TreeSet<Integer> gone = new TreeSet<>();
        int lifts = 0;

        Now copy() {
            Now n = new Now();
            for (List<Integer> stack : stacks) {
                n.stacks.add(new ArrayList<>(stack));
            }
            n.quay.addAll(quay);
            n.came.putAll(came);
            n.had.addAll(had);
            n.lifted.putAll(lifted);
            n.opened.putAll(opened);
            n.gone.addAll(gone);
            n.lifts = lifts;
            return n;
        }
    }

    private static final Map<String, String> FORMS = Map.of(
        "port", "straw 0..999 wage 1..99 gang 0..30 council 0..30",
        "ship", "NEW day 0..60 chance 0..100 late 1..30 says 0..20",
        "crate", "NEW plain|wet|frail|lashed on SHIP stack 0..2 is NUMBER weighs 1..30",
        "town", "NEW people 1..99",
        "road", "TOWN OTHER days 1..9",
        "opened", "CRATE day|night");

    // ---- texts

    private static final class Token {
        final String sign;
        final int place;

        Token(String sign, int place) {
            this.sign = sign;
            this.place = place;
        }

        boolean isWord() {
            return sign.matches("[a-z]{1,8}");
        }

        boolean isWhole() {
            return sign.matches("[0-9]{1,3}");
        }
    }

    static Told parse(String text) {
        List<Token> tokens = new ArrayList<>();
        Matcher m = Pattern.compile("[a-z]+|[0-9]+|[^ ]", Pattern.DOTALL).matcher(text);
        while (m.find()) {
            tokens.add(new Token(m.group(), m.start()));
        }
        tokens.add(new Token("", text.length()));
        Told told = new Told();
        int at = 0;
        while (true) {
            at = parseLine(told, tokens, at);
            Token behind = tokens.get(at);
            if (behind.sign.isEmpty()) {
                if (told.ships.isEmpty() || told.towns.isEmpty()) {
                    throw new Fault(6, behind.place);
                }
                return told;
            }
            if (!behind.sign.equals(";")) {
                throw new Fault(1, behind.place);
            }
            at++;
        }
    }

    private static int parseLine(Told told, List<Token> tokens, int from) {
        Token first = tokens.get(from);
        String sort = first.sign;
        if (!FORMS.containsKey(sort)) {
            throw new Fault(1, first.place);
        }
        if (sort.equals("port") && told.port != null) {
            throw new Fault(3, first.place);
        }
        if (sort.equals("ship") && told.ships.size() == 3 || sort.equals("town") && told.towns.size() == 5
            || sort.equals("road") && told.roads.size() == 8) {
            throw new Fault(5, first.place);
        }
        if (!sort.equals("port") && told.port == null) {
            throw new Fault(6, first.place);
        }
        List<Integer> row = new ArrayList<>();
        int at = from + 1;
        for (String part : FORMS.get(sort).split(" ")) {
            Token token = tokens.get(at);
            Integer value = parsePart(told, sort, part, token, row);
            if (value != null) {
                row.add(value);
            }
            at++;
        }
        int[] numbers = row.stream().mapToInt(Integer::intValue).toArray();
        switch (sort) {
            case "port" -> told.port = numbers;
            case "ship" -> told.ships.add(numbers);
            case "crate" -> told.crates.add(numbers);
            case "town" -> told.towns.add(numbers);
            case "road" -> told.roads.add(numbers);
            default -> told.opened.put(numbers[0], numbers[1] == 1);
        }
        return at;
    }

    private static Integer parsePart(Told told, String sort, String part, Token token, List<Integer> row) {
        if (part.contains("..") || part.equals("NUMBER")) {
            if (!token.isWhole()) {
                throw new Fault(1, token.place);
            }
            int value = Integer.parseInt(token.sign);
            if (part.equals("NUMBER")) {
                for (int[] crate : told.crates) {
                    if (crate[3] == value) {
                        throw new Fault(3, token.place);
                    }
                }
            }
            String[] ends = (part.equals("NUMBER") ? "1..99" : part).split("\\.\\.");
            if (value < Integer.parseInt(ends[0]) || value > Integer.parseInt(ends[1])) {
                throw new Fault(4, token.place);
            }
            return value;
        }
        if (part.equals(part.toUpperCase())) {
            if (!token.isWord() || FORMS.containsKey(token.sign)) {
                throw new Fault(1, token.place);
            }
            return parseName(told, sort, part, token, row);
        }
        List<String> choice = Arrays.asList(part.split("\\|"));
        if (!choice.contains(token.sign)) {
            throw new Fault(1, token.place);
        }
        return choice.size() == 1 ? null : choice.indexOf(token.sign);
    }

    private static Integer parseName(Told told, String sort, String part, Token token, List<Integer> row) {
        if (part.equals("NEW")) {
            if (told.sorts.containsKey(token.sign)) {
                throw new Fault(3, token.place);
            }
            told.sorts.put(token.sign, sort);
            int size = sort.equals("ship") ? told.ships.size() : sort.equals("crate") ? told.crates.size()
                : told.towns.size();
            told.numbers.put(token.sign, size);
            return null;
        }
        String wanted = part.equals("OTHER") ? "town" : part.toLowerCase();
        if (!wanted.equals(told.sorts.get(token.sign))) {
            throw new Fault(2, token.place);
        }
        int number = told.numbers.get(token.sign);
        if (part.equals("OTHER")) {
            int one = row.get(0);
            for (int[] road : told.roads) {
                if (road[0] == one && road[1] == number || road[1] == one && road[0] == number) {
                    throw new Fault(3, token.place);
                }
            }
            if (one == number) {
                throw new Fault(3, token.place);
            }
        }
        if (part.equals("CRATE") && told.opened.containsKey(number)) {
            throw new Fault(3, token.place);
        }
        if (part.equals("SHIP") && told.crates.stream().filter(c -> c[1] == number).count() == 5) {
            throw new Fault(5, token.place);
        }
        return number;
    }

    // ---- the object

    private String tape = "";
    private Told told = null;
    private Now now = new Now();
    private final List<Now> kept = new ArrayList<>();
    private final List<Now> images = new ArrayList<>();
    private int fault = 0;
    private int place = 0;
    private int trouble = 0;

    private int no(int number) {
        trouble = number;
        return NONE;
    }

    private int is(int answer) {
        trouble = 0;
        return answer;
    }

    private boolean isShip(int s) {
        return told != null && s >= 0 && s < told.ships.size();
    }

    private boolean isCrate(int c) {
        return told != null && c >= 0 && c < told.crates.size();
    }

    private boolean isTown(int t) {
        return told != null && t >= 0 && t < told.towns.size();
    }

    private static boolean in(int x, int low, int high) {
        return x >= low && x <= high;
    }

    int feed(int a, int b, int c, int d, int e) {
        if (tape.length() > 980) {
            return NONE;
        }
        for (int x : new int[] {a, b, c, d, e}) {
            tape += "" + (char) (x >>> 24) + (char) (x >>> 16 & 255) + (char) (x >>> 8 & 255) + (char) (x & 255);
        }
        return tape.length();
    }

    int port(int n) {
        if (!in(n, 0, tape.length())) {
            return no(2);
        }
        String text = tape.substring(0, n);
        tape = "";
        try {
            told = parse(text);
        } catch (Fault f) {
            fault = f.number;
            place = f.place;
            return no(4);
        }
        fault = 0;
        now = new Now();
        for (int i = 0; i < 9; i++) {
            now.stacks.add(new ArrayList<>());
        }
        for (int c = 0; c < told.crates.size(); c++) {
            now.stacks.get(told.crates.get(c)[1] * 3 + told.crates.get(c)[2]).add(c);
        }
        now.opened.putAll(told.opened);
        kept.clear();
        images.clear();
        return is(told.crates.size());
    }

    int fault() {
        return fault;
    }

    int where() {
        return trouble == 4 ? place : NONE;
    }

    private int kind(int c) {
        return told.crates.get(c)[0];
    }

    private int number(int c) {
        return told.crates.get(c)[3];
    }

    private int weighs(int c) {
        return told.crates.get(c)[4];
    }

    private boolean broken(int c) {
        return kind(c) == 2 && now.lifted.getOrDefault(c, 0) > 1;
    }

    private int whereIs(int c) {
        if (now.had.contains(number(c))) {
            return 4;
        }
        if (now.gone.contains(c)) {
            return 5;
        }
        if (now.quay.contains(c)) {
            return 3;
        }
        for (int stack = 0; stack < 3; stack++) {
            if (now.stacks.get(told.crates.get(c)[1] * 3 + stack).contains(c)) {
                return stack;
            }
        }
        throw new IllegalStateException("lost");
    }

    int crate(int c, int what) {
        if (!isCrate(c) || !in(what, 0, 6)) {
            return no(1);
        }
        return is(new int[] {kind(c), told.crates.get(c)[1], number(c), weighs(c), whereIs(c),
            now.lifted.getOrDefault(c, 0), broken(c) ? 1 : 0}[what]);
    }

    int high(int ship, int stack) {
        return isShip(ship) && in(stack, 0, 2) ? is(now.stacks.get(ship * 3 + stack).size()) : no(1);
    }

    int lies(int ship, int stack, int i) {
        if (!isShip(ship) || !in(stack, 0, 2) || !in(i, 0, now.stacks.get(ship * 3 + stack).size() - 1)) {
            return no(1);
        }
        return is(now.stacks.get(ship * 3 + stack).get(i));
    }

    int quay(int i) {
        return told != null && in(i, 0, now.quay.size() - 1) ? is(now.quay.get(i)) : no(1);
    }

    private int dry() {
        for (int c : now.quay) {
            if (kind(c) != 1 || now.had.size() - now.came.get(c) >= 1) {
                return c;
            }
        }
        return -2;
    }

    int next() {
        return told == null ? no(1) : is(dry());
    }

    int had(int day) {
        return told != null && in(day, 0, now.had.size() - 1) ? is(now.had.get(day)) : no(1);
    }

    private int day(int number) {
        int day = now.had.indexOf(number);
        return day < 0 ? -2 : day;
    }

    int hadOn(int number) {
        return told == null ? no(1) : !in(number, 1, 99) ? no(2) : is(day(number));
    }

    int missing() {
        if (told == null) {
            return no(1);
        }
        int most = now.had.isEmpty() ? 0 : Collections.max(now.had);
        for (int number = 1; number < most; number++) {
            for (int c = 0; c < told.crates.size(); c++) {
                if (number(c) == number && !now.had.contains(number)) {
                    return is(number);
                }
            }
        }
        return is(-2);
    }

    int evenings() {
        if (told == null) {
            return no(1);
        }
        StringBuilder days = new StringBuilder();
        for (int number : now.had) {
            days.append(number == 0 ? 'e' : ' ');
        }
        int longest = 0;
        for (String row : days.toString().split(" ")) {
            longest = Math.max(longest, row.length());
        }
        return is(longest);
    }

    int judge() {
        if (told == null) {
            return no(1);
        }
        for (int s = 0; s < told.ships.size(); s++) {
            int ship = s;
            if (told.crates.stream().filter(c -> c[1] == ship).count() != told.ships.get(s)[3]) {
                return is(s);
            }
        }
        return is(-2);
    }

    /** In how many of a hundred winters a ship has come by a day. */
    private int hundredths(int s, int day) {
        int[] ship = told.ships.get(s);
        int come = 0;
        for (int i = 0; i < 100; i++) {
            come += ship[0] + (i < ship[1] ? ship[2] : 0) <= day ? 1 : 0;
        }
        return come;
    }

    private static long lowest(long above, long below, boolean lower) {
        for (long by : new long[] {2, 3, 5, 7}) {
            while (above % by == 0 && below % by == 0 && below > 1) {
                above /= by;
                below /= by;
            }
        }
        return lower ? below : above;
    }

    long come(int ship, int day, boolean lower) {
        if (!isShip(ship) || !in(day, 0, 99)) {
            return no(isShip(ship) ? 2 : 1);
        }
        is(0);
        return lowest(hundredths(ship, day), 100, lower);
    }

    long allCome(int day, boolean lower) {
        if (told == null || !in(day, 0, 99)) {
            return no(told == null ? 1 : 2);
        }
        is(0);
        long above = 1;
        long below = 1;
        for (int s = 0; s < told.ships.size(); s++) {
            above *= hundredths(s, day);
            below *= 100;
        }
        return lowest(above, below, lower);
    }

    int sure(int day) {
        if (told == null || !in(day, 0, 99)) {
            return no(told == null ? 1 : 2);
        }
        return is((int) told.crates.stream().filter(c -> hundredths(c[1], day) == 100).count());
    }

    long mean(int ship, boolean lower) {
        if (!isShip(ship)) {
            return no(1);
        }
        is(0);
        int sum = 0;
        for (int i = 0; i < 100; i++) {
            sum += told.ships.get(ship)[0] + (i < told.ships.get(ship)[1] ? told.ships.get(ship)[2] : 0);
        }
        return lowest(sum, 100, lower);
    }

    private int heavy(int ship, int stack) {
        return now.stacks.get(ship * 3 + stack).stream().mapToInt(this::weighs).sum();
    }

    int weight(int ship) {
        return isShip(ship) ? is(heavy(ship, 0) + heavy(ship, 1) + heavy(ship, 2)) : no(1);
    }

    int heaviest(int ship) {
        if (!isShip(ship)) {
            return no(1);
        }
        int most = Math.max(heavy(ship, 0), Math.max(heavy(ship, 1), heavy(ship, 2)));
        return is(heavy(ship, 0) == most ? 0 : heavy(ship, 1) == most ? 1 : 2);
    }

    /** By layers of like many lifts: to each state the first row of lifts (two digits each) that leads there. */
    private String out(int ship) {
        List<TreeMap<String, String>> layers = new ArrayList<>();
        for (int i = 0; i < 40; i++) {
            layers.add(new TreeMap<>());
        }
        StringBuilder start = new StringBuilder();
        for (int stack = 0; stack < 3; stack++) {
            for (int c : now.stacks.get(ship * 3 + stack)) {
                start.append((char) ('A' + c));
            }
            start.append('/');
        }
        TreeSet<Integer> lifted = new TreeSet<>();
        for (int c = 0; c < told.crates.size(); c++) {
            if (now.lifted.getOrDefault(c, 0) > 0) {
                lifted.add(c);
            }
        }
        for (int c : lifted) {
            start.append((char) ('A' + c));
        }
        layers.get(0).put(start.toString(), "");
        TreeSet<String> seen = new TreeSet<>();
        for (int cost = 0; cost < 36; cost++) {
            for (Map.Entry<String, String> e : layers.get(cost).entrySet()) {
                if (e.getKey().startsWith("///")) {
                    return cost + ":" + e.getValue();
                }
                if (seen.add(e.getKey())) {
                    spread(layers, cost, e.getKey(), e.getValue());
                }
            }
        }
        return null;
    }

    private void spread(List<TreeMap<String, String>> layers, int cost, String state, String path) {
        String[] parts = state.split("/", -1);
        int least = 100;
        for (int stack = 0; stack < 3; stack++) {
            for (char c : parts[stack].toCharArray()) {
                least = Math.min(least, number(c - 'A'));
            }
        }
        for (int from = 0; from < 3; from++) {
            if (parts[from].isEmpty()) {
                continue;
            }
            char top = parts[from].charAt(parts[from].length() - 1);
            for (int to = 0; to < 4; to++) {
                boolean breaks = kind(top - 'A') == 2 && parts[3].indexOf(top) >= 0;
                if (to == from || breaks || to == 3 && number(top - 'A') != least) {
                    continue;
                }
                String[] after = parts.clone();
                after[from] = after[from].substring(0, after[from].length() - 1);
                if (to < 3) {
                    after[to] += top;
                }
                // Only of frail ones it matters that they were lifted.
                if (kind(top - 'A') == 2) {
                    after[3] += top;
                }
                String key = String.join("/", after);
                String row = path + from + to;
                layers.get(cost + (kind(top - 'A') == 3 ? 2 : 1)).merge(key, row, (p, q) -> p.compareTo(q) < 0 ? p : q);
            }
        }
    }

    int fewest(int ship) {
        if (!isShip(ship)) {
            return no(1);
        }
        String out = out(ship);
        return is(out == null ? -2 : Integer.parseInt(out.substring(0, out.indexOf(':'))));
    }

    int liftAt(int ship, int i) {
        if (!isShip(ship)) {
            return no(1);
        }
        String out = out(ship);
        if (out == null) {
            return no(6);
        }
        String row = out.substring(out.indexOf(':') + 1);
        return in(i, 0, row.length() / 2 - 1) ? is(Integer.parseInt(row.substring(2 * i, 2 * i + 2))) : no(1);
    }

    int wrongly(int ship) {
        if (!isShip(ship)) {
            return no(1);
        }
        int wrong = 0;
        for (int stack = 0; stack < 3; stack++) {
            int least = 100;
            for (int c : now.stacks.get(ship * 3 + stack)) {
                wrong += number(c) > least ? 1 : 0;
                least = Math.min(least, number(c));
            }
        }
        return is(wrong);
    }

    private List<Integer> sets() {
        List<Integer> sets = new ArrayList<>();
        for (int set = 0; set < 1 << told.crates.size(); set++) {
            int straw = 0;
            boolean asFound = true;
            for (int c = 0; c < told.crates.size(); c++) {
                boolean night = (set >> c & 1) == 1;
                straw += night ? 2 * weighs(c) : weighs(c);
                asFound &= now.opened.getOrDefault(c, night) == night;
            }
            if (asFound && straw == told.port[0]) {
                sets.add(set);
            }
        }
        return sets;
    }

    int fits() {
        return told == null ? no(1) : is(sets().size());
    }

    int could() {
        return told == null ? no(1) : is(sets().stream().reduce(0, (a, b) -> a | b));
    }

    int surely() {
        if (told == null) {
            return no(1);
        }
        List<Integer> sets = sets();
        return is(sets.isEmpty() ? 0 : sets.stream().reduce(-1, (a, b) -> a & b));
    }

    private int[] asking() {
        List<Integer> sets = sets();
        int[] best = {-2, -2};
        for (int c = told.crates.size() - 1; c >= 0; c--) {
            int bit = c;
            if (!now.opened.containsKey(c) && !sets.isEmpty()) {
                int with = (int) sets.stream().filter(s -> (s >> bit & 1) == 1).count();
                int most = Math.max(with, sets.size() - with);
                if (best[0] < 0 || most <= best[1]) {
                    best = new int[] {c, most};
                }
            }
        }
        return best;
    }

    int ask() {
        return told == null ? no(1) : is(asking()[0]);
    }

    int askLeaves() {
        return told == null ? no(1) : is(asking()[1]);
    }

    int share(int town, int minutes) {
        if (!isTown(town) || !in(minutes, 0, 9999)) {
            return no(isTown(town) ? 2 : 1);
        }
        int all = told.towns.stream().mapToInt(t -> t[0]).sum();
        List<Integer> order = new ArrayList<>();
        int[] gets = new int[told.towns.size()];
        int left = minutes;
        for (int t = 0; t < gets.length; t++) {
            order.add(t);
            gets[t] = minutes * told.towns.get(t)[0] / all;
            left -= gets[t];
        }
        order.sort((p, q) -> minutes * told.towns.get(q)[0] % all - minutes * told.towns.get(p)[0] % all);
        for (int i = 0; i < left; i++) {
            gets[order.get(i)]++;
        }
        return is(gets[town]);
    }

    /** All ways without a town twice, by trying; the best is first by days, then by its towns. */
    private String way(int town) {
        TreeSet<String> ways = new TreeSet<>();
        walk("0", 0, town, ways);
        return ways.isEmpty() ? null : ways.first();
    }

    private void walk(String towns, int days, int goal, TreeSet<String> ways) {
        int here = towns.charAt(towns.length() - 1) - '0';
        if (here == goal) {
            ways.add(String.format("%03d:%s", days, towns));
            return;
        }
        for (int[] road : told.roads) {
            for (int side = 0; side < 2; side++) {
                if (road[side] == here && towns.indexOf('0' + road[1 - side]) < 0) {
                    walk(towns + road[1 - side], days + road[2], goal, ways);
                }
            }
        }
    }

    private int days(int town) {
        String way = way(town);
        return way == null ? -2 : Integer.parseInt(way.substring(0, 3));
    }

    int late(int town) {
        return isTown(town) ? is(days(town)) : no(1);
    }

    int farthest() {
        if (told == null) {
            return no(1);
        }
        int latest = 0;
        for (int town = told.towns.size() - 1; town >= 0; town--) {
            if (days(town) >= days(latest)) {
                latest = town;
            }
        }
        return is(latest);
    }

    int wayAt(int town, int i) {
        if (!isTown(town) || way(town) == null || !in(i, 0, way(town).length() - 5)) {
            return no(1);
        }
        return is(way(town).charAt(4 + i) - '0');
    }

    private int inlandOf(int town, int number) {
        return day(number) < 0 || days(town) < 0 ? -2 : day(number) + days(town);
    }

    int inland(int town, int number) {
        return !isTown(town) ? no(1) : !in(number, 1, 99) ? no(2) : is(inlandOf(town, number));
    }

    int people(int number, int day) {
        if (told == null || !in(number, 1, 99) || !in(day, 0, 999)) {
            no(told == null ? 1 : 2);
            return -10000;
        }
        int sum = 0;
        for (int town = 0; town < told.towns.size(); town++) {
            sum += told.towns.get(town)[0] * (in(inlandOf(town, number), 0, day) ? 1 : -1);
        }
        return is(sum);
    }

    private int pay(int gang, int council, boolean ofCouncil) {
        int lasts = Math.min(gang, council);
        int wage = gang > council ? told.port[1] : 0;
        return ofCouncil ? -wage - lasts * told.port[3] : wage - lasts * told.port[2];
    }

    int strike(int gang, int council, boolean ofCouncil) {
        if (told == null || !in(gang, 0, 9) || !in(council, 0, 9)) {
            no(told == null ? 1 : 2);
            return -10000;
        }
        return is(pay(gang, council, ofCouncil));
    }

    private List<Integer> restList() {
        List<Integer> rests = new ArrayList<>();
        for (int pair = 0; pair < 100; pair++) {
            boolean rest = true;
            for (int other = 0; other < 10; other++) {
                rest &= pay(other, pair % 10, false) <= pay(pair / 10, pair % 10, false);
                rest &= pay(pair / 10, other, true) <= pay(pair / 10, pair % 10, true);
            }
            if (rest) {
                rests.add(pair);
            }
        }
        return rests;
    }

    int rests() {
        return told == null ? no(1) : is(restList().size());
    }

    int rest(int i) {
        return told != null && in(i, 0, restList().size() - 1) ? is(restList().get(i)) : no(1);
    }

    private int draws(int seed, int times) {
        long s = seed;
        for (int i = 0; i < times; i++) {
            s = (75 * s + 74) % 65537;
        }
        return (int) (s % 100);
    }

    int winter(int seed) {
        if (told == null || !in(seed, 0, 65536)) {
            return no(told == null ? 1 : 2);
        }
        TreeSet<Integer> days = new TreeSet<>();
        for (int s = 0; s < told.ships.size(); s++) {
            int[] ship = told.ships.get(s);
            days.add(ship[0] + (draws(seed, s + 1) < ship[1] ? ship[2] : 0));
        }
        return is(days.last());
    }

    int lates(int ship, int seed, int n) {
        if (!isShip(ship) || !in(seed, 0, 65536) || !in(n, 1, 60)) {
            return no(isShip(ship) ? 2 : 1);
        }
        int times = 0;
        for (int i = 0; i < n; i++) {
            times += draws(seed, i * told.ships.size() + ship + 1) < told.ships.get(ship)[1] ? 1 : 0;
        }
        return is(times);
    }

    private void keep() {
        kept.add(now.copy());
        if (kept.size() > 16) {
            kept.remove(0);
        }
    }

    int lift(int ship, int from, int to) {
        if (!isShip(ship) || !in(from, 0, 2) || !in(to, 0, 3)) {
            return no(1);
        }
        if (from == to || now.stacks.get(ship * 3 + from).isEmpty()) {
            return no(5);
        }
        keep();
        List<Integer> stack = now.stacks.get(ship * 3 + from);
        int c = stack.remove(stack.size() - 1);
        now.lifted.merge(c, 1, Integer::sum);
        now.lifts += kind(c) == 3 ? 2 : 1;
        if (to < 3) {
            now.stacks.get(ship * 3 + to).add(c);
        } else if (broken(c)) {
            now.gone.add(c);
        } else {
            now.quay.add(c);
            now.came.put(c, now.had.size());
        }
        return is(c);
    }

    int dawn() {
        if (told == null || now.had.size() == 99) {
            return no(told == null ? 1 : 3);
        }
        keep();
        int c = dry();
        now.had.add(c < 0 ? 0 : number(c));
        now.quay.remove((Integer) c);
        return is(c < 0 ? 0 : number(c));
    }

    boolean open(int c, boolean night) {
        if (!isCrate(c) || now.opened.containsKey(c)) {
            no(isCrate(c) ? 5 : 1);
            return false;
        }
        keep();
        now.opened.put(c, night);
        is(0);
        return true;
    }

    boolean undo() {
        if (kept.isEmpty()) {
            no(6);
            return false;
        }
        now = kept.remove(kept.size() - 1);
        is(0);
        return true;
    }

    int image() {
        if (told == null || images.size() == 3) {
            return no(told == null ? 1 : 3);
        }
        images.add(now.copy());
        return is(images.size() - 1);
    }

    boolean back(int image) {
        if (!in(image, 0, images.size() - 1)) {
            no(1);
            return false;
        }
        now = images.get(image).copy();
        kept.clear();
        is(0);
        return true;
    }

    /** -1 where it throws. */
    int led(int i) {
        List<Integer> broken = new ArrayList<>();
        for (int c = 0; told != null && c < told.crates.size(); c++) {
            if (broken(c)) {
                broken.add(c);
            }
        }
        return in(i, 0, broken.size() - 1) ? broken.get(i) : -1;
    }

    int size(int what) {
        if (!in(what, 0, 12)) {
            return NONE;
        }
        if (what == 12) {
            return tape.length();
        }
        return told == null ? 0 : new int[] {told.port[0], told.port[1], told.ships.size(), told.crates.size(),
            told.towns.size(), told.roads.size(), now.opened.size(), now.had.size(), now.lifts, now.quay.size(),
            kept.size(), images.size()}[what];
    }

    int trouble() {
        return trouble;
    }
}
