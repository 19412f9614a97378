/** Promises 30 to 35, sentence by sentence: the edges of SHARES, LATE and WAY, and of what is had inland. */
public final class EdgesTownsTest {
    private static final Check CHECK = new Check("EdgesTownsTest");
    private static final int LEAST = Integer.MIN_VALUE;
    private static final int MOST = Integer.MAX_VALUE;
    private static final int[] NO_TOWNS = {-1, 5, 6, LEAST, MOST};
    private static final int[] NO_NUMBERS = {-1, 0, 100, LEAST, MOST};
    private static final String SHIP = Check.PORT + ";" + Check.SHIP;

    private static String towns(int... people) {
        StringBuilder text = new StringBuilder(SHIP);
        for (int i = 0; i < people.length; i++) {
            text.append(";town ").append((char) ('a' + i)).append(" people ").append(people[i]);
        }
        return text.toString();
    }

    /** Roads as "ab3": from town a to town b by 3 days. */
    private static String roads(String... roads) {
        StringBuilder text = new StringBuilder();
        for (String road : roads) {
            text.append(";road ").append(road.charAt(0)).append(' ').append(road.charAt(1)).append(" days ");
            text.append(road.charAt(2));
        }
        return text.toString();
    }

    // ---- Promise 30: "what a town gets of minutes (0 .. 9,999). NONE: 1; 2."

    private static void shares() {
        Edges edges = new Edges(CHECK, () -> Check.of(towns(50, 30, 20, 7, 7)));
        int[] due = {44, 26, 18, 6, 6};
        for (int i = 0; i < 5; i++) {
            int town = i;
            edges.answers("share(" + i + ", 0)", x -> x.share(town, 0), 0);
            edges.answers("share(" + i + ", 100)", x -> x.share(town, 100), due[i]);
            for (int minutes : new int[] {-1, 10000, LEAST, MOST}) {
                edges.refuses("share(" + i + ", " + minutes + ")", x -> x.share(town, minutes), -1, 2);
            }
        }
        for (int town : NO_TOWNS) {
            for (int minutes : new int[] {0, 9999, -1, 10000}) {
                edges.refuses("share(" + town + ", " + minutes + ")", x -> x.share(town, minutes), -1, 1);
            }
        }
        Edges one = new Edges(CHECK, () -> Check.of(towns(1)));
        one.answers("share(0, 0)", x -> x.share(0, 0), 0);
        one.answers("share(0, 1)", x -> x.share(0, 1), 1);
        one.answers("share(0, 9999)", x -> x.share(0, 9999), 9999);
        one.refuses("share(1, 1)", x -> x.share(1, 1), -1, 1);
    }

    /** "what is left over one by one to those with the greatest rests, the first ones of like" */
    private static void shareOf(int minutes, int[] people, int... due) {
        DayPort x = Check.of(towns(people));
        for (int town = 0; town < due.length; town++) {
            CHECK.due("share(" + town + ", " + minutes + ")", x.share(town, minutes), due[town]);
        }
    }

    private static void leftOver() {
        int[] like = {1, 1, 1, 1, 1};
        shareOf(0, like, 0, 0, 0, 0, 0);
        shareOf(1, like, 1, 0, 0, 0, 0);
        shareOf(4, like, 1, 1, 1, 1, 0);
        shareOf(5, like, 1, 1, 1, 1, 1);
        shareOf(6, like, 2, 1, 1, 1, 1);
        shareOf(9999, like, 2000, 2000, 2000, 2000, 1999);
        // Rests of 3 minutes by 1 2 3 of 6: 3, 0 and 3: the first of like ones has one more.
        shareOf(3, new int[] {1, 2, 3}, 1, 1, 1);
        shareOf(3, new int[] {3, 2, 1}, 2, 1, 0);
        // The greatest rest wins over the first town: 1 99: rest 1 against 99.
        shareOf(1, new int[] {1, 99}, 0, 1);
        shareOf(9999, new int[] {99, 99}, 5000, 4999);
        shareOf(9999, new int[] {1, 99}, 100, 9899);
        shareOf(50, new int[] {1, 99}, 1, 49);
        shareOf(49, new int[] {1, 99}, 0, 49);
        shareOf(2, new int[] {99, 1, 99}, 1, 0, 1);
    }

    private static void sharesTogether() {
        int[] people = {99, 98, 1, 2, 97};
        for (int minutes = 0; minutes <= 9999; minutes += 101) {
            DayPort x = Check.of(towns(people));
            int together = 0;
            for (int town = 0; town < 5; town++) {
                together += x.share(town, minutes);
            }
            CHECK.due("shares of " + minutes + " together", together, minutes);
        }
    }

    // ---- Promises 31 to 33: "LATE; -2 there is no WAY", "the first such", "The i-th town of the WAY"

    private static void way(String text, int town, int late, int... towns) {
        Edges edges = new Edges(CHECK, () -> Check.of(text));
        edges.answers("late(" + town + ")", x -> x.late(town), late);
        for (int i = 0; i < towns.length; i++) {
            int at = i;
            edges.answers("wayAt(" + town + ", " + i + ")", x -> x.wayAt(town, at), towns[i]);
        }
        for (int i : new int[] {-1, towns.length, towns.length + 1, 5, LEAST, MOST}) {
            edges.refuses("wayAt(" + town + ", " + i + ")", x -> x.wayAt(town, i), -1, 1);
        }
    }

    private static void ways() {
        String text = towns(1, 1, 1, 1, 1) + roads("ab2", "bc3", "ac6");
        way(text, 0, 0, 0);
        way(text, 1, 2, 0, 1);
        way(text, 2, 5, 0, 1, 2);
        way(text, 3, -2);
        way(text, 4, -2);
        Edges edges = new Edges(CHECK, () -> Check.of(text));
        edges.answers("farthest", DayPort::farthest, 2);
        for (int town : NO_TOWNS) {
            edges.refuses("late(" + town + ")", x -> x.late(town), -1, 1);
            edges.refuses("wayAt(" + town + ", 0)", x -> x.wayAt(town, 0), -1, 1);
        }
        way(towns(1), 0, 0, 0);
        new Edges(CHECK, () -> Check.of(towns(1))).refuses("late(1)", x -> x.late(1), -1, 1);
        // Roads that don't begin at the first town lead nowhere.
        way(towns(1, 1, 1) + roads("bc1"), 2, -2);
    }

    private static void longestWay() {
        String text = towns(1, 1, 1, 1, 1) + roads("ae9", "ed9", "dc9", "cb9");
        way(text, 1, 36, 0, 4, 3, 2, 1);
        way(text, 4, 9, 0, 4);
        way(text + roads("ab9"), 1, 9, 0, 1);
        new Edges(CHECK, () -> Check.of(text)).answers("farthest", DayPort::farthest, 1);
        way(text + roads("ba9", "bd1", "ca9", "be9"), 2, 9, 0, 2);
    }

    /** "WAY: its towns, the first by numbers", of ways of like many days. */
    private static void firstWay() {
        way(towns(1, 1, 1, 1, 1) + roads("ae1", "ed1", "ac1", "dc1"), 3, 2, 0, 2, 3);
        way(towns(1, 1, 1, 1, 1) + roads("ad2", "ab1", "bd1"), 3, 2, 0, 1, 3);
        way(towns(1, 1, 1, 1, 1) + roads("ab2", "ac1", "cb1"), 1, 2, 0, 1);
        way(towns(1, 1, 1, 1, 1) + roads("ab1", "bc1", "cd1", "de1", "ae4"), 4, 4, 0, 1, 2, 3, 4);
        way(towns(1, 1, 1, 1, 1) + roads("ab1", "bc1", "cd1", "de1", "ae3"), 4, 3, 0, 4);
        way(towns(1, 1, 1, 1, 1) + roads("ac1", "ab1", "bd2", "cd2", "de1"), 4, 4, 0, 1, 3, 4);
    }

    private static void farthest(int due, String text) {
        new Edges(CHECK, () -> Check.of(text)).answers("farthest of " + text, DayPort::farthest, due);
    }

    private static void farthest() {
        farthest(0, towns(1));
        farthest(0, towns(1, 1, 1, 1, 1));
        farthest(4, towns(1, 1, 1, 1, 1) + roads("ae1"));
        farthest(1, towns(1, 1, 1) + roads("ab3", "ac3"));
        farthest(2, towns(1, 1, 1) + roads("ab3", "ac4"));
        farthest(1, towns(1, 1, 1) + roads("ab3", "ac2"));
        // A town without a WAY is not the latest, be its own road ever so long.
        farthest(1, towns(1, 1, 1, 1) + roads("ab1", "cd9"));
    }

    // ---- Promise 34: "The day on which a NUMBER that was HAD is had in a town; -2 it wasn't, or there is no WAY."

    /** 1 is HAD on day 0, 99 on day 98; 50 isn't. */
    private static DayPort had() {
        DayPort x = Check.of(SHIP + ";crate k plain on s stack 0 is 1 weighs 1;crate l plain on s stack 1 is 99 weighs 1;"
            + "crate m plain on s stack 2 is 50 weighs 1;town a people 99;town b people 1;town c people 30;"
            + "town d people 20;town e people 7" + roads("ab9", "bc9", "cd9"));
        x.lift(0, 0, 3);
        for (int day = 0; day < 98; day++) {
            x.dawn();
        }
        x.lift(0, 1, 3);
        x.dawn();
        return x;
    }

    private static void inland() {
        Edges edges = new Edges(CHECK, EdgesTownsTest::had);
        int[] first = {0, 9, 18, 27, -2};
        int[] last = {98, 107, 116, 125, -2};
        for (int i = 0; i < 5; i++) {
            int town = i;
            edges.answers("inland(" + i + ", 1)", x -> x.inland(town, 1), first[i]);
            edges.answers("inland(" + i + ", 99)", x -> x.inland(town, 99), last[i]);
            edges.answers("inland(" + i + ", 50)", x -> x.inland(town, 50), -2);
            edges.answers("inland(" + i + ", 2)", x -> x.inland(town, 2), -2);
        }
        for (int number : NO_NUMBERS) {
            edges.refuses("inland(0, " + number + ")", x -> x.inland(0, number), -1, 2);
            edges.refuses("inland(4, " + number + ")", x -> x.inland(4, number), -1, 2);
            edges.refuses("inland(5, " + number + ")", x -> x.inland(5, number), -1, 1);
        }
        for (int town : NO_TOWNS) {
            edges.refuses("inland(" + town + ", 1)", x -> x.inland(town, 1), -1, 1);
        }
    }

    // ---- Promise 35: "on a day (0 .. 999) or ahead of it, less those of the others; may be below 0. -10,000: 1; 2"

    private static void people() {
        Edges edges = new Edges(CHECK, EdgesTownsTest::had);
        int[][] due = {{1, 0, 41}, {1, 8, 41}, {1, 9, 43}, {1, 17, 43}, {1, 18, 103}, {1, 26, 103}, {1, 27, 143},
            {1, 999, 143}, {99, 0, -157}, {99, 97, -157}, {99, 98, 41}, {99, 124, 103}, {99, 125, 143}, {99, 999, 143},
            {50, 0, -157}, {50, 999, -157}, {2, 999, -157}, {98, 999, -157}};
        for (int[] row : due) {
            edges.answers("people(" + row[0] + ", " + row[1] + ")", x -> x.people(row[0], row[1]), row[2]);
        }
        for (int number : NO_NUMBERS) {
            edges.refuses("people(" + number + ", 0)", x -> x.people(number, 0), -10000, 2);
            edges.refuses("people(" + number + ", 1000)", x -> x.people(number, 1000), -10000, 2);
        }
        for (int day : new int[] {-1, 1000, LEAST, MOST}) {
            edges.refuses("people(1, " + day + ")", x -> x.people(1, day), -10000, 2);
        }
    }

    private static void mostPeople() {
        DayPort x = Check.of(SHIP + ";crate k plain on s stack 0 is 7 weighs 1" + towns(99, 99, 99, 99, 99)
            .substring(SHIP.length()) + roads("ab1", "ac1", "ad1", "ae1"));
        CHECK.due("people, not HAD", x.people(7, 999), -495);
        x.lift(0, 0, 3);
        x.dawn();
        CHECK.due("people on day 0", x.people(7, 0), -297);
        CHECK.due("people on day 1", x.people(7, 1), 495);
        x.undo();
        CHECK.due("people, undone", x.people(7, 999), -495);
    }

    public static void main(String[] args) {
        shares();
        leftOver();
        sharesTogether();
        ways();
        longestWay();
        firstWay();
        farthest();
        inland();
        people();
        mostPeople();
        CHECK.end();
    }
}
