/** Promises 36 to 40, sentence by sentence: the edges of THE STRIKE, its RESTS, SEEDS and DRAWS. */
public final class EdgesStrikeTest {
    private static final Check CHECK = new Check("EdgesStrikeTest");
    private static final int LEAST = Integer.MIN_VALUE;
    private static final int MOST = Integer.MAX_VALUE;
    private static final int[] NO_HOLDS = {-1, 10, 11, LEAST, MOST};
    private static final int[] NO_SEEDS = {-1, 65537, 65538, LEAST, MOST};

    private static DayPort disputed(int wage, int gang, int council) {
        return Check.of("port straw 0 wage " + wage + " gang " + gang + " council " + council + ";" + Check.SHIP + ";"
            + Check.TOWN);
    }

    /** Ships that come on day 10, by these chances five days later. */
    private static DayPort ships(int... chances) {
        StringBuilder text = new StringBuilder(Check.PORT);
        for (int i = 0; i < chances.length; i++) {
            text.append(";ship ").append((char) ('a' + i)).append(" day 1").append(i).append(" chance ");
            text.append(chances[i]).append(" late 5 says 0");
        }
        return Check.of(text.append(';').append(Check.TOWN).toString());
    }

    // ---- Promise 36: "What the gang has (or, council, the council) if they hold out so long. -10,000: 1 (no PORT); 2."

    private static void pays() {
        Edges edges = new Edges(CHECK, () -> disputed(20, 3, 4));
        int[][] due = {{0, 0, 0, 0}, {1, 0, 20, -20}, {9, 0, 20, -20}, {0, 1, 0, 0}, {0, 9, 0, 0}, {1, 1, -3, -4},
            {3, 2, 14, -28}, {2, 3, -6, -8}, {9, 8, -4, -52}, {8, 9, -24, -32}, {9, 9, -27, -36}};
        for (int[] row : due) {
            String held = "strike(" + row[0] + ", " + row[1] + ")";
            edges.answers(held + " of the gang", x -> x.strike(row[0], row[1], false), row[2]);
            edges.answers(held + " of the council", x -> x.strike(row[0], row[1], true), row[3]);
        }
        for (int days : NO_HOLDS) {
            for (boolean ofCouncil : new boolean[] {false, true}) {
                edges.refuses("strike(" + days + ", 0)", x -> x.strike(days, 0, ofCouncil), -10000, 2);
                edges.refuses("strike(0, " + days + ")", x -> x.strike(0, days, ofCouncil), -10000, 2);
                edges.refuses("strike(9, " + days + ")", x -> x.strike(9, days, ofCouncil), -10000, 2);
                edges.refuses("strike(both " + days + ")", x -> x.strike(days, days, ofCouncil), -10000, 2);
            }
        }
    }

    private static void mostPays() {
        DayPort x = disputed(99, 30, 30);
        CHECK.due("the most it can have", x.strike(9, 0, false), 99);
        CHECK.due("the least it can have", x.strike(9, 9, false), -270);
        CHECK.due("the least the council can have", x.strike(9, 8, true), -339);
        DayPort y = disputed(1, 0, 0);
        CHECK.due("a strike that costs nothing", y.strike(9, 8, false), 1);
        CHECK.due("a strike that costs nothing", y.strike(9, 8, true), -1);
        CHECK.due("a strike that costs nothing", y.strike(9, 9, false), 0);
    }

    // ---- Promises 37 and 38: "a pair by which neither could have more alone", "by the gang's days, then the council's"

    private static void rests(int wage, int gang, int council, int... due) {
        Edges edges = new Edges(CHECK, () -> disputed(wage, gang, council));
        edges.answers("rests", DayPort::rests, due.length);
        for (int i = 0; i < due.length; i++) {
            int at = i;
            edges.answers("rest(" + i + ")", x -> x.rest(at), due[i]);
        }
        for (int i : new int[] {-1, due.length, due.length + 1, 100, LEAST, MOST}) {
            edges.refuses("rest(" + i + ")", x -> x.rest(i), -1, 1);
        }
    }

    private static void rests() {
        // To have as much is not to have more: by 30 for 10 a day each gives in to three days.
        rests(30, 10, 10, 3, 4, 5, 6, 7, 8, 9, 30, 40, 50, 60, 70, 80, 90);
        rests(31, 10, 10, 4, 5, 6, 7, 8, 9, 40, 50, 60, 70, 80, 90);
        rests(29, 10, 10, 3, 4, 5, 6, 7, 8, 9, 30, 40, 50, 60, 70, 80, 90);
        rests(99, 30, 30, 4, 5, 6, 7, 8, 9, 40, 50, 60, 70, 80, 90);
        rests(1, 30, 30, 1, 2, 3, 4, 5, 6, 7, 8, 9, 10, 20, 30, 40, 50, 60, 70, 80, 90);
        // Where nothing costs, the council holds out to the last, and all the gang's days are alike.
        rests(1, 0, 0, 9, 19, 29, 39, 49, 59, 69, 79, 89, 99);
        // Against nine days the gang can't win: to give in at once is always a REST, here the only one.
        rests(99, 1, 0, 9);
        rests(10, 1, 1, 9);
        rests(9, 1, 1, 9, 90);
    }

    // ---- Promise 39: "A WINTER by a SEED (0 .. 65,536). NONE: 1 (no PORT); 2.", "mod 100 below its chance"

    private static void winter(int seed, int draw) {
        // Late by a chance above the DRAW, not by a chance that is the DRAW.
        for (int chance : new int[] {draw, draw + 1}) {
            Edges edges = new Edges(CHECK, () -> ships(chance));
            edges.answers("winter(" + seed + ") by " + chance, x -> x.winter(seed), chance > draw ? 15 : 10);
            edges.answers("lates(0, " + seed + ", 1)", x -> x.lates(0, seed, 1), chance > draw ? 1 : 0);
        }
    }

    /** "SEED becomes (75 times SEED and 74) mod 65,537": 872 is the last that stays below it, 45,438 becomes 0. */
    private static void draws() {
        int[][] due = {{0, 74}, {1, 49}, {872, 74}, {873, 12}, {45438, 0}, {25340, 1}, {21846, 99}, {1748, 0},
            {20097, 35}, {65535, 61}, {65536, 36}};
        for (int[] row : due) {
            winter(row[0], row[1]);
        }
    }

    private static void seeds() {
        Edges edges = new Edges(CHECK, () -> ships(50, 0, 100));
        edges.answers("winter(0)", x -> x.winter(0), 17);
        edges.answers("winter(65536)", x -> x.winter(65536), 17);
        for (int seed : NO_SEEDS) {
            edges.refuses("winter(" + seed + ")", x -> x.winter(seed), -1, 2);
            edges.refuses("lates(0, " + seed + ", 1)", x -> x.lates(0, seed, 1), -1, 2);
        }
    }

    /** "the day on which the last one comes": each ship by a DRAW of its own. */
    private static void lastOne() {
        // Seed 0 draws 74, 24, 52.
        CHECK.due("none late", ships(74, 24, 52).winter(0), 12);
        CHECK.due("the first late", ships(75, 24, 52).winter(0), 15);
        CHECK.due("the second late", ships(74, 25, 52).winter(0), 16);
        CHECK.due("the third late", ships(74, 24, 53).winter(0), 17);
        CHECK.due("all late", ships(100, 100, 100).winter(0), 17);
        CHECK.due("never late", ships(0, 0, 0).winter(0), 12);
        DayPort x = Check.of(Check.PORT + ";ship a day 60 chance 100 late 30 says 0;ship b day 0 chance 0 late 1 says 0;"
            + Check.TOWN);
        CHECK.due("the last day there is", x.winter(7), 90);
        DayPort y = Check.of(Check.PORT + ";ship a day 0 chance 0 late 30 says 0;" + Check.TOWN);
        CHECK.due("the first day there is", y.winter(7), 0);
    }

    // ---- Promise 40: "In how many of n (1 .. 60), SEED going on, a ship is late. NONE: 1; 2."

    private static void lates() {
        Edges edges = new Edges(CHECK, () -> ships(75, 0, 100));
        edges.answers("lates(0, 0, 1)", x -> x.lates(0, 0, 1), 1);
        edges.answers("lates(1, 0, 1)", x -> x.lates(1, 0, 1), 0);
        edges.answers("lates(1, 0, 60)", x -> x.lates(1, 0, 60), 0);
        edges.answers("lates(2, 0, 1)", x -> x.lates(2, 0, 1), 1);
        edges.answers("lates(2, 65536, 60)", x -> x.lates(2, 65536, 60), 60);
        edges.answers("lates(0, 65536, 60)", x -> x.lates(0, 65536, 60), 60);
        for (int n : new int[] {0, 61, -1, LEAST, MOST}) {
            edges.refuses("lates(0, 0, " + n + ")", x -> x.lates(0, 0, n), -1, 2);
        }
        for (int ship : new int[] {-1, 3, 4, LEAST, MOST}) {
            edges.refuses("lates(" + ship + ", 0, 1)", x -> x.lates(ship, 0, 1), -1, 1);
            edges.refuses("lates(" + ship + ", -1, 1)", x -> x.lates(ship, -1, 1), -1, 1);
            edges.refuses("lates(" + ship + ", 0, 61)", x -> x.lates(ship, 0, 61), -1, 1);
        }
    }

    /** Seed 0 draws 74 24 52 | 90 41 9 | ...: three a winter with three ships, one with one. */
    private static void seedGoesOn() {
        CHECK.due("one ship, 74 24 52 90 41 9", ships(50).lates(0, 0, 6), 3);
        CHECK.due("one ship, 74 24 52 90 41", ships(50).lates(0, 0, 5), 2);
        CHECK.due("two ships: 74, 52, 41", ships(52, 0).lates(0, 0, 3), 1);
        CHECK.due("two ships: 24, 90, 9", ships(0, 25).lates(1, 0, 3), 2);
        CHECK.due("three ships: 74, 90", ships(90, 0, 0).lates(0, 0, 2), 1);
        CHECK.due("three ships: 24, 41", ships(0, 41, 0).lates(1, 0, 2), 1);
        CHECK.due("three ships: 52, 9", ships(0, 0, 10).lates(2, 0, 2), 1);
    }

    public static void main(String[] args) {
        pays();
        mostPays();
        rests();
        draws();
        seeds();
        lastOne();
        lates();
        seedGoesOn();
        CHECK.end();
    }
}
