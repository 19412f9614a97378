/** Promises 25 to 29: contraband by its straw, which crate to open next. */
public final class NightTest {
    private static final Check CHECK = new Check("NightTest");

    private static DayPort port(int straw, String... lines) {
        StringBuilder text = new StringBuilder("port straw " + straw + " wage 1 gang 0 council 0;" + Check.SHIP);
        for (String line : lines) {
            text.append(';').append(line);
        }
        return Check.of(text.append(';').append(Check.TOWN).toString());
    }

    private static DayPort weighing(int straw, int... weights) {
        String[] lines = new String[weights.length];
        for (int i = 0; i < weights.length; i++) {
            lines[i] = "crate " + (char) ('a' + i) + " plain on s stack 0 is " + (i + 1) + " weighs " + weights[i];
        }
        return port(straw, lines);
    }

    private static void night(DayPort x, int fits, int could, int surely, int ask, int leaves) {
        CHECK.due("fits", x.fits(), fits);
        CHECK.due("could", x.could(), could);
        CHECK.due("surely", x.surely(), surely);
        CHECK.due("ask", x.ask(), ask);
        CHECK.due("askLeaves", x.askLeaves(), leaves);
        CHECK.due("trouble", x.trouble(), 0);
    }

    private static void sets() {
        // 2 + 3 + 5 weigh 10: the contraband is 3 + 2, or 5.
        DayPort x = weighing(15, 2, 3, 5);
        night(x, 2, 7, 0, 0, 1);
        night(weighing(10, 2, 3, 5), 1, 0, 0, 0, 1);
        night(weighing(20, 2, 3, 5), 1, 7, 7, 0, 1);
        night(weighing(11, 2, 3, 5), 0, 0, 0, -2, -2);
        night(weighing(21, 2, 3, 5), 0, 0, 0, -2, -2);
        night(weighing(9, 2, 3, 5), 0, 0, 0, -2, -2);
        night(weighing(0), 1, 0, 0, -2, -2);
        night(weighing(1), 0, 0, 0, -2, -2);
        // Any two of 1 1 1, with 4 surely in none: 1 + 1 = 2.
        night(weighing(9, 4, 1, 1, 1), 3, 14, 0, 1, 2);
        night(weighing(13, 4, 1, 1, 1), 3, 15, 1, 1, 2);
    }

    private static void opened() {
        DayPort x = weighing(15, 2, 3, 5);
        CHECK.due("open", x.open(2, true), true);
        night(x, 1, 4, 4, 0, 1);
        CHECK.due("open", x.open(1, true), true);
        night(x, 0, 0, 0, -2, -2);
        x.undo();
        x.open(1, false);
        x.open(0, false);
        night(x, 1, 4, 4, -2, -2);
        night(port(10, "crate a wet on s stack 0 is 1 weighs 5", "opened a night"), 1, 1, 1, -2, -2);
        night(port(5, "crate a wet on s stack 0 is 1 weighs 5", "opened a night"), 0, 0, 0, -2, -2);
        night(port(5, "crate a wet on s stack 0 is 1 weighs 5", "opened a day"), 1, 0, 0, -2, -2);
    }

    private static void crateByFewestLeft() {
        // Sets that weigh 4 together: 4, 1 + 3, 2 + 2, 1 + 1 + 2 ... of 1 1 2 3 4: 4; 1 3; 1 3; 1 1 2.
        DayPort x = weighing(15, 1, 1, 2, 3, 4);
        night(x, 4, 31, 0, 0, 2);
        x.open(0, true);
        night(x, 2, 15, 1, 1, 1);
    }

    private static void countedWhereverTheyAre() {
        DayPort x = weighing(15, 2, 3, 5);
        x.lift(0, 0, 3);
        x.dawn();
        night(x, 2, 7, 0, 0, 1);
    }

    private static DayPort heaviest(int straw) {
        return Check.of(Check.fullShips("port straw " + straw + " wage 1 gang 0 council 0", 30) + ";" + Check.TOWN);
    }

    private static void fifteenOfTheHeaviest() {
        night(heaviest(450), 1, 0, 0, 0, 1);
        night(heaviest(900), 1, 32767, 32767, 0, 1);
        night(heaviest(870), 15, 32767, 0, 0, 14);
        night(heaviest(660), 6435, 32767, 0, 0, 3432);
        night(heaviest(690), 6435, 32767, 0, 0, 3432);
        night(heaviest(899), 0, 0, 0, -2, -2);
        night(heaviest(901), 0, 0, 0, -2, -2);
        night(heaviest(930), 0, 0, 0, -2, -2);
        night(heaviest(999), 0, 0, 0, -2, -2);
    }

    public static void main(String[] args) {
        sets();
        opened();
        crateByFewestLeft();
        countedWhereverTheyAre();
        fifteenOfTheHeaviest();
        CHECK.end();
    }
}
