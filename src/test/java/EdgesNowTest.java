/** Promises 6 to 14, sentence by sentence: the edges of crates, stacks, the quay, days that went by, what is missing. */
public final class EdgesNowTest {
    private static final Check CHECK = new Check("EdgesNowTest");
    private static final int LEAST = Integer.MIN_VALUE;
    private static final int MOST = Integer.MAX_VALUE;
    private static final String TWO_SHIPS = Check.PORT + ";ship a day 2 chance 20 late 5 says 3;"
        + "ship b day 60 chance 100 late 30 says 0";

    private static DayPort told() {
        return Check.of(TWO_SHIPS + ";crate k plain on a stack 0 is 1 weighs 4;crate l wet on a stack 0 is 99 weighs 6;"
            + "crate m frail on a stack 2 is 50 weighs 2;crate n lashed on b stack 2 is 7 weighs 30;opened k day;"
            + Check.TOWN);
    }

    /** k is HAD on day 1, l lies on the quay, m is LIFTED once; n is where it was; now it is day 3. */
    private static DayPort used() {
        DayPort x = told();
        x.dawn();
        x.lift(0, 0, 1);
        x.lift(0, 0, 3);
        x.dawn();
        x.dawn();
        x.lift(0, 1, 3);
        x.lift(0, 2, 0);
        x.image();
        return x;
    }

    private static void refusedBy1(Edges edges, int[][] rows, int arguments) {
        for (int[] row : rows) {
            String shown = "(" + row[0] + ", " + row[1] + (arguments == 3 ? ", " + row[2] : "") + ")";
            if (arguments == 3) {
                edges.refuses("lies" + shown, x -> x.lies(row[0], row[1], row[2]), -1, 1);
            } else {
                edges.refuses("crate" + shown, x -> x.crate(row[0], row[1]), -1, 1);
            }
        }
    }

    // ---- Promise 6: "Of a crate 0 .. 6", "NONE: 1"

    private static void crates() {
        Edges edges = new Edges(CHECK, EdgesNowTest::used);
        int[][] due = {{0, 0, 1, 4, 4, 1, 0}, {1, 0, 99, 6, 3, 2, 0}, {2, 0, 50, 2, 0, 1, 0}, {3, 1, 7, 30, 2, 0, 0}};
        for (int i = 0; i < 28; i++) {
            int c = i / 7;
            int what = i % 7;
            edges.answers("crate(" + c + ", " + what + ")", x -> x.crate(c, what), due[c][what]);
        }
        refusedBy1(edges, new int[][] {{-1, 0}, {4, 0}, {15, 0}, {LEAST, 0}, {MOST, 0}, {0, -1}, {0, 7}, {3, 7}, {3, -1},
            {0, LEAST}, {0, MOST}, {-1, -1}, {4, 7}}, 2);
        Edges empty = new Edges(CHECK, Check::with);
        refusedBy1(empty, new int[][] {{0, 0}, {0, 6}, {-1, 0}}, 2);
    }

    /** "4 where it is NOW (0, 1, 2 that stack, 3 the quay, 4 HAD, 5 broken and gone)", "5 how often", "6 1 if broken" */
    private static void frailOnItsWay() {
        DayPort x = told();
        int[][] due = {{2, 0, 0}, {1, 1, 0}, {0, 2, 1}, {1, 3, 1}, {5, 4, 1}};
        int[][] lifts = {{2, 1}, {1, 0}, {0, 1}, {1, 3}};
        for (int i = 0; i < due.length; i++) {
            for (int what = 4; what <= 6; what++) {
                CHECK.due("frail behind " + i + ": " + what, x.crate(2, what), due[i][what - 4]);
            }
            if (i < lifts.length) {
                CHECK.due("lift", x.lift(0, lifts[i][0], lifts[i][1]), 2);
            }
        }
        CHECK.due("it doesn't lie on the quay", x.size(9), 0);
        CHECK.due("nor is it had", x.dawn(), 0);
    }

    private static void frailOnceIsWhole() {
        DayPort x = told();
        x.lift(0, 2, 3);
        CHECK.due("on the quay", x.crate(2, 4), 3);
        CHECK.due("once", x.crate(2, 5), 1);
        CHECK.due("whole", x.crate(2, 6), 0);
        CHECK.due("had", x.dawn(), 50);
        CHECK.due("HAD", x.crate(2, 4), 4);
        DayPort y = told();
        y.lift(0, 2, 1);
        y.lift(0, 1, 3);
        CHECK.due("breaks on its way to the quay", y.crate(2, 4), 5);
        CHECK.due("twice", y.crate(2, 5), 2);
        CHECK.due("broken", y.crate(2, 6), 1);
        CHECK.due("nothing on the quay", y.size(9), 0);
    }

    private static void onlyFrailOnesBreak() {
        DayPort x = told();
        for (int i = 0; i < 4; i++) {
            x.lift(0, i % 2, 1 - i % 2);
            x.lift(1, 2 - i % 2, 1 + i % 2);
        }
        CHECK.due("a wet one", x.crate(1, 5) * 10 + x.crate(1, 6), 40);
        CHECK.due("a lashed one", x.crate(3, 5) * 10 + x.crate(3, 6), 40);
        CHECK.brokenIs(x, 0, -1);
    }

    // ---- Promises 7 and 8: "How high a stack is", "The i-th crate of it, from below"

    private static void stacks() {
        Edges edges = new Edges(CHECK, EdgesNowTest::told);
        int[][] highs = {{2, 0, 1}, {0, 0, 1}};
        for (int i = 0; i < 6; i++) {
            int ship = i / 3;
            int stack = i % 3;
            edges.answers("high(" + ship + ", " + stack + ")", x -> x.high(ship, stack), highs[ship][stack]);
            int beyond = highs[ship][stack];
            edges.refuses("lies beyond", x -> x.lies(ship, stack, beyond), -1, 1);
            edges.refuses("lies below", x -> x.lies(ship, stack, -1), -1, 1);
        }
        for (int[] row : new int[][] {{-1, 0}, {2, 0}, {3, 0}, {0, -1}, {0, 3}, {1, 3}, {1, -1}, {LEAST, 0}, {MOST, 0},
            {0, LEAST}, {0, MOST}, {-1, 3}, {2, -1}}) {
            edges.refuses("high(" + row[0] + ", " + row[1] + ")", x -> x.high(row[0], row[1]), -1, 1);
            edges.refuses("lies(" + row[0] + ", " + row[1] + ", 0)", x -> x.lies(row[0], row[1], 0), -1, 1);
        }
        edges.answers("lies(0, 0, 0)", x -> x.lies(0, 0, 0), 0);
        edges.answers("lies(0, 0, 1)", x -> x.lies(0, 0, 1), 1);
        edges.answers("lies(0, 2, 0)", x -> x.lies(0, 2, 0), 2);
        edges.answers("lies(1, 2, 0)", x -> x.lies(1, 2, 0), 3);
        refusedBy1(edges, new int[][] {{0, 0, LEAST}, {0, 0, MOST}, {1, 2, MOST}}, 3);
    }

    private static void fullStack() {
        DayPort x = Check.of(Check.fullShips(Check.PORT, 1) + ";" + Check.TOWN);
        // Stack 1 of each ship has two crates, as has stack 2; all come to stack 0, on its one.
        for (int ship = 0; ship < 3; ship++) {
            int first = 5 * ship;
            int[] due = {first + 2, first + 3, first, first + 4, first + 1};
            for (int stack : new int[] {1, 1, 2, 2}) {
                x.lift(ship, stack, 0);
            }
            CHECK.due("high(" + ship + ", 0)", x.high(ship, 0), 5);
            for (int i = 0; i < 5; i++) {
                CHECK.due("lies(" + ship + ", 0, " + i + ")", x.lies(ship, 0, i), due[i]);
            }
            CHECK.refused(x, "lies(" + ship + ", 0, 5)", x.lies(ship, 0, 5), -1, 1);
            CHECK.due("the other stacks", x.high(ship, 1) + x.high(ship, 2), 0);
        }
    }

    // ---- Promises 9 and 10: "The i-th crate on the quay", "What is HAD at the next DAWN: its crate; -2 none"

    private static void quay() {
        Edges empty = new Edges(CHECK, EdgesNowTest::told);
        empty.refuses("quay(0)", x -> x.quay(0), -1, 1);
        empty.answers("next", DayPort::next, -2);
        Edges edges = new Edges(CHECK, EdgesNowTest::used);
        edges.answers("quay(0)", x -> x.quay(0), 1);
        for (int i : new int[] {-1, 1, 2, LEAST, MOST}) {
            edges.refuses("quay(" + i + ")", x -> x.quay(i), -1, 1);
        }
        edges.answers("next, a wet one alone", DayPort::next, -2);
    }

    private static void fullQuay() {
        DayPort x = Check.of(Check.fullShips(Check.PORT, 1) + ";" + Check.TOWN);
        for (int i = 0; i < 15; i++) {
            int[] stacks = {0, 1, 1, 2, 2};
            CHECK.due("lift", x.lift(2 - i / 5, stacks[i % 5], 3), 5 * (2 - i / 5) + new int[] {2, 3, 0, 4, 1}[i % 5]);
            CHECK.due("size(9)", x.size(9), i + 1);
        }
        for (int i = 0; i < 15; i++) {
            CHECK.due("quay(" + i + ")", x.quay(i), 5 * (2 - i / 5) + new int[] {2, 3, 0, 4, 1}[i % 5]);
        }
        CHECK.refused(x, "quay(15)", x.quay(15), -1, 1);
        CHECK.due("all are wet", x.dawn(), 0);
        for (int i = 0; i < 15; i++) {
            int due = 5 * (2 - i / 5) + new int[] {2, 3, 0, 4, 1}[i % 5];
            CHECK.due("next", x.next(), due);
            CHECK.due("dawn", x.dawn(), due + 1);
        }
        CHECK.due("next", x.next(), -2);
    }

    /** "A wet one is dry from the second DAWN behind its coming to the quay on." */
    private static void wetOnes() {
        for (int days = 0; days < 3; days++) {
            DayPort x = told();
            for (int day = 0; day < days; day++) {
                x.dawn();
            }
            x.lift(0, 0, 3);
            CHECK.due("next, the first DAWN", x.next(), -2);
            CHECK.due("the first DAWN", x.dawn(), 0);
            CHECK.due("next, the second DAWN", x.next(), 1);
            CHECK.due("the second DAWN", x.dawn(), 99);
        }
        // From its coming to the quay on, not from its first LIFT; and the first dry one is had, not the first.
        DayPort y = told();
        y.lift(0, 0, 1);
        y.dawn();
        y.lift(0, 1, 3);
        y.lift(0, 0, 3);
        CHECK.due("the dry one behind it", y.next(), 0);
        CHECK.due("dawn", y.dawn(), 1);
        y.lift(0, 2, 3);
        CHECK.due("the wet one is the first that is dry", y.next(), 1);
        CHECK.due("dawn", y.dawn(), 99);
        CHECK.due("dawn", y.dawn(), 50);
    }

    // ---- Promise 11: "The NUMBER that was HAD on a day that went by; 0 a long evening. NONE: 1."

    private static void had() {
        Edges first = new Edges(CHECK, EdgesNowTest::told);
        first.refuses("had(0) on day 0", x -> x.had(0), -1, 1);
        first.refuses("had(-1) on day 0", x -> x.had(-1), -1, 1);
        Edges edges = new Edges(CHECK, EdgesNowTest::used);
        edges.answers("had(0)", x -> x.had(0), 0);
        edges.answers("had(1)", x -> x.had(1), 1);
        edges.answers("had(2)", x -> x.had(2), 0);
        for (int day : new int[] {-1, 3, 4, 98, 99, LEAST, MOST}) {
            edges.refuses("had(" + day + ")", x -> x.had(day), -1, 1);
        }
        DayPort x = told();
        for (int day = 0; day < 98; day++) {
            x.dawn();
        }
        CHECK.refused(x, "had(98) on day 98", x.had(98), -1, 1);
        x.lift(0, 2, 3);
        x.dawn();
        CHECK.due("had(98) on day 99", x.had(98), 50);
        CHECK.due("hadOn(50)", x.hadOn(50), 98);
        CHECK.refused(x, "had(99) on day 99", x.had(99), -1, 1);
    }

    // ---- Promise 12: "The day on which a NUMBER was HAD; -2. NONE: 1 (no PORT); 2 (1 .. 99)."

    private static void hadOn() {
        Edges edges = new Edges(CHECK, EdgesNowTest::used);
        edges.answers("hadOn(1)", x -> x.hadOn(1), 1);
        edges.answers("hadOn(99), on the quay", x -> x.hadOn(99), -2);
        edges.answers("hadOn(50), on a stack", x -> x.hadOn(50), -2);
        edges.answers("hadOn(98), of no crate", x -> x.hadOn(98), -2);
        for (int number : new int[] {0, 100, -1, -2, LEAST, MOST}) {
            edges.refuses("hadOn(" + number + ")", x -> x.hadOn(number), -1, 2);
        }
        DayPort x = used();
        x.dawn();
        x.dawn();
        CHECK.due("hadOn(99)", x.hadOn(99), 4);
        x.lift(0, 0, 3);
        CHECK.due("hadOn(50), broken and gone", x.hadOn(50), -2);
    }

    // ---- Promise 13: "the least NUMBER of a crate that wasn't HAD, below the greatest that was"

    private static void missing() {
        new Edges(CHECK, EdgesNowTest::told).answers("missing, nothing HAD", DayPort::missing, -2);
        new Edges(CHECK, EdgesNowTest::used).answers("missing below 1", DayPort::missing, -2);
        DayPort x = used();
        x.dawn();
        x.dawn();
        CHECK.due("missing, 7 and 50", x.missing(), 7);
        x.lift(1, 2, 3);
        CHECK.due("missing, 7 on the quay", x.missing(), 7);
        x.dawn();
        CHECK.due("missing, 50", x.missing(), 50);
        x.lift(0, 0, 3);
        CHECK.due("missing, 50 broken and gone", x.missing(), 50);
        DayPort y = told();
        y.lift(1, 2, 3);
        y.dawn();
        CHECK.due("missing below 7: 1, not 50 or 99", y.missing(), 1);
        y.lift(0, 0, 1);
        y.lift(0, 0, 3);
        y.dawn();
        CHECK.due("missing: what is above the greatest isn't", y.missing(), -2);
        CHECK.due("trouble", y.trouble(), 0);
        DayPort z = Check.with("crate a plain on s stack 0 is 1 weighs 1");
        z.lift(0, 0, 3);
        z.dawn();
        CHECK.due("missing, the only one HAD", z.missing(), -2);
        DayPort first = Check.with("crate a plain on s stack 0 is 2 weighs 1", "crate b plain on s stack 1 is 1 weighs 1");
        first.lift(0, 0, 3);
        first.dawn();
        CHECK.due("missing, the first crate HAD", first.missing(), 1);
    }

    /** All crates that there is room for, HAD from the greatest NUMBER to the least. */
    private static void fifteenHad() {
        DayPort x = Check.of(Check.fullShips(Check.PORT, 1).replace("wet", "plain") + ";" + Check.TOWN);
        CHECK.due("hadOn(99)", x.hadOn(99), -2);
        for (int i = 14; i >= 0; i--) {
            CHECK.due("missing", x.missing(), i == 14 ? -2 : 1);
            int stack = (i % 5 + 1) % 3;
            CHECK.due("lift", x.lift(i / 5, stack, 3), i);
            CHECK.due("dawn", x.dawn(), i + 1);
        }
        CHECK.due("missing", x.missing(), -2);
        for (int i = 0; i < 15; i++) {
            CHECK.due("hadOn(" + (i + 1) + ")", x.hadOn(i + 1), 14 - i);
            CHECK.due("had(" + i + ")", x.had(i), 15 - i);
            CHECK.due("where", x.crate(i, 4), 4);
        }
        CHECK.due("hadOn(16)", x.hadOn(16), -2);
        CHECK.refused(x, "crate(15, 0)", x.crate(15, 0), -1, 1);
    }

    // ---- Promise 14: "The longest row of long evenings one behind the other so far."

    private static void evenings() {
        Edges first = new Edges(CHECK, EdgesNowTest::told);
        first.answers("evenings on day 0", DayPort::evenings, 0);
        DayPort x = Check.of(Check.fullShips(Check.PORT, 1).replace("wet", "plain") + ";" + Check.TOWN);
        // '*' a day is had, '.' a long evening; behind each the longest row so far.
        String days = "*..*.*...*..*....";
        int[] due = {0, 1, 2, 2, 2, 2, 2, 2, 3, 3, 3, 3, 3, 3, 3, 3, 4};
        int lifts = 0;
        for (int day = 0; day < days.length(); day++) {
            if (days.charAt(day) == '*') {
                x.lift(lifts % 3, lifts / 3, 3);
                lifts++;
            }
            CHECK.due("dawn of " + day, x.dawn() > 0, days.charAt(day) == '*');
            CHECK.due("evenings behind " + day, x.evenings(), due[day]);
        }
        DayPort y = told();
        for (int day = 1; day <= 99; day++) {
            y.dawn();
            CHECK.due("evenings", y.evenings(), day);
        }
    }

    public static void main(String[] args) {
        crates();
        frailOnItsWay();
        frailOnceIsWhole();
        onlyFrailOnesBreak();
        stacks();
        fullStack();
        quay();
        fullQuay();
        wetOnes();
        had();
        hadOn();
        missing();
        fifteenHad();
        evenings();
        CHECK.end();
    }
}
