/** Promises 25 to 29, sentence by sentence: the edges of NIGHT (no set, one, all; the straw's ends) and of ASK. */
public final class EdgesNightTest {
    private static final Check CHECK = new Check("EdgesNightTest");

    /** One ship with crates of these weights; behind it lines more. */
    private static String text(int straw, int[] weights, String more) {
        StringBuilder text = new StringBuilder("port straw " + straw + " wage 1 gang 0 council 0;" + Check.SHIP);
        for (int i = 0; i < weights.length; i++) {
            text.append(";crate ").append((char) ('a' + i)).append(" plain on s stack 0 is ").append(i + 1);
            text.append(" weighs ").append(weights[i]);
        }
        return text.append(more).append(";town tt people 1").toString();
    }

    private static void night(String text, int fits, int could, int surely, int ask, int leaves) {
        Edges edges = new Edges(CHECK, () -> Check.of(text));
        edges.answers(text + ": fits", DayPort::fits, fits);
        edges.answers(text + ": could", DayPort::could, could);
        edges.answers(text + ": surely", DayPort::surely, surely);
        edges.answers(text + ": ask", DayPort::ask, ask);
        edges.answers(text + ": askLeaves", DayPort::askLeaves, leaves);
    }

    private static void none(String text) {
        night(text, 0, 0, 0, -2, -2);
    }

    // ---- without crates: the empty set has no straw

    private static void noCrates() {
        night(text(0, new int[] {}, ""), 1, 0, 0, -2, -2);
        none(text(1, new int[] {}, ""));
        none(text(999, new int[] {}, ""));
    }

    // ---- "each of these leaves twice as much straw as it weighs, others as much as they weigh": both ends

    private static void strawsEnds() {
        int[] weights = {1, 30, 7};
        none(text(0, weights, ""));
        none(text(37, weights, ""));
        night(text(38, weights, ""), 1, 0, 0, 0, 1);
        night(text(39, weights, ""), 1, 1, 1, 0, 1);
        none(text(40, weights, ""));
        none(text(74, weights, ""));
        night(text(75, weights, ""), 1, 6, 6, 0, 1);
        night(text(76, weights, ""), 1, 7, 7, 0, 1);
        none(text(77, weights, ""));
        none(text(999, weights, ""));
        night(text(1, new int[] {1}, ""), 1, 0, 0, 0, 1);
        night(text(2, new int[] {1}, ""), 1, 1, 1, 0, 1);
        none(text(3, new int[] {1}, ""));
    }

    private static void fifteenCrates() {
        String town = ";" + Check.TOWN;
        for (int weighs : new int[] {1, 30}) {
            int sum = 15 * weighs;
            night(full(sum, weighs) + town, 1, 0, 0, 0, 1);
            none(full(sum - 1, weighs) + town);
            night(full(sum + weighs, weighs) + town, 15, 32767, 0, 0, 14);
            night(full(sum + 7 * weighs, weighs) + town, 6435, 32767, 0, 0, 3432);
            night(full(2 * sum - weighs, weighs) + town, 15, 32767, 0, 0, 14);
            night(full(2 * sum, weighs) + town, 1, 32767, 32767, 0, 1);
            none(full(2 * sum + 1, weighs) + town);
            none(full(2 * sum + weighs, weighs) + town);
            none(full(999, weighs) + town);
        }
    }

    private static String full(int straw, int weighs) {
        return Check.fullShips("port straw " + straw + " wage 1 gang 0 council 0", weighs);
    }

    // ---- "those that are opened being as they were found"

    private static void opened() {
        int[] weights = {2, 3, 5};
        night(text(15, weights, ""), 2, 7, 0, 0, 1);
        night(text(15, weights, ";opened c night"), 1, 4, 4, 0, 1);
        night(text(15, weights, ";opened c day"), 1, 3, 3, 0, 1);
        night(text(15, weights, ";opened a night"), 1, 3, 3, 1, 1);
        none(text(15, weights, ";opened a night;opened c night"));
        night(text(15, weights, ";opened a night;opened b night"), 1, 3, 3, 2, 1);
        night(text(15, weights, ";opened a night;opened b night;opened c day"), 1, 3, 3, -2, -2);
        none(text(15, weights, ";opened a night;opened b night;opened c night"));
        none(text(15, weights, ";opened a day;opened b day;opened c day"));
        night(text(10, weights, ";opened a day;opened b day;opened c day"), 1, 0, 0, -2, -2);
        night(text(20, weights, ";opened c night;opened b night;opened a night"), 1, 7, 7, -2, -2);
    }

    // ---- "of crates not opened the one by which ... at most the fewest sets are left; the first such"

    private static void asking() {
        // 1 + 1 of 1 1 1: each is in two of three; 4 is in none, so it leaves all three.
        night(text(9, new int[] {4, 1, 1, 1}, ""), 3, 14, 0, 1, 2);
        night(text(9, new int[] {1, 1, 1, 4}, ""), 3, 7, 0, 0, 2);
        // 4; 1 3; 1 3; 1 1 2: the two 1s are in two of four, as is 3; the first is asked.
        night(text(15, new int[] {4, 2, 3, 1, 1}, ""), 4, 31, 0, 2, 2);
        night(text(15, new int[] {4, 2, 1, 1, 3}, ""), 4, 31, 0, 2, 2);
        // 3; 3; 1 2; 1 2: the last alone halves them.
        night(text(13, new int[] {1, 1, 3, 3, 2}, ""), 4, 31, 0, 4, 2);
    }

    private static void openingByActs() {
        DayPort x = Check.of(text(15, new int[] {2, 3, 5}, ""));
        x.open(2, true);
        CHECK.due("fits", x.fits() * 100 + x.could() * 10 + x.surely(), 144);
        CHECK.due("ask", x.ask(), 0);
        x.open(0, false);
        CHECK.due("ask", x.ask(), 1);
        x.open(1, false);
        CHECK.due("ask, all are opened", x.ask(), -2);
        CHECK.due("askLeaves, all are opened", x.askLeaves(), -2);
        x.undo();
        CHECK.due("ask, one undone", x.ask(), 1);
        x.open(1, true);
        CHECK.due("no set", x.fits(), 0);
        CHECK.due("no set: surely", x.surely(), 0);
        CHECK.due("no set: ask", x.ask(), -2);
    }

    /** Crates count as told, wherever they are NOW. */
    private static void crateGone() {
        DayPort x = Check.of(text(15, new int[] {2, 3, 5}, "").replace("c plain", "c frail"));
        x.lift(0, 0, 1);
        x.lift(0, 1, 3);
        x.lift(0, 0, 3);
        x.dawn();
        CHECK.due("one is gone, one HAD", x.fits() * 10 + x.could(), 27);
    }

    public static void main(String[] args) {
        noCrates();
        strawsEnds();
        fifteenCrates();
        opened();
        asking();
        openingByActs();
        crateGone();
        CHECK.end();
    }
}
