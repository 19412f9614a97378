/** Promises 22 to 24, sentence by sentence: the edges of OUT, LIFT by LIFT, and of what lies wrongly. */
public final class EdgesLiftsTest {
    private static final Check CHECK = new Check("EdgesLiftsTest");
    private static final int LEAST = Integer.MIN_VALUE;
    private static final int MOST = Integer.MAX_VALUE;

    /** Crates as "kind stack NUMBER", three words each, in their order. */
    private static DayPort laid(String... crates) {
        String[] lines = new String[crates.length];
        for (int i = 0; i < crates.length; i++) {
            String[] words = crates[i].split(" ");
            lines[i] = "crate c" + (char) ('a' + i) + " " + words[0] + " on s stack " + words[1] + " is " + words[2]
                + " weighs 1";
        }
        return Check.with(lines);
    }

    private static void out(String name, DayPort x, int fewest, int... lifts) {
        x.lift(-1, 0, 0);
        CHECK.due(name + ": fewest", x.fewest(0), fewest);
        CHECK.due(name + ": trouble", x.trouble(), 0);
        for (int i = 0; i < lifts.length; i++) {
            x.lift(-1, 0, 0);
            CHECK.due(name + ": liftAt(0, " + i + ")", x.liftAt(0, i), lifts[i]);
            CHECK.due(name + ": trouble", x.trouble(), 0);
        }
        for (int i : new int[] {lifts.length, lifts.length + 1, -1, LEAST, MOST}) {
            x.liftAt(0, 0);
            CHECK.refused(x, name + ": liftAt(0, " + i + ")", x.liftAt(0, i), -1, 1);
        }
        follow(name, x, fewest, lifts);
    }

    /** "all crates of a ship as they lie NOW come to the quay by NUMBERS, the least first, none broken" */
    private static void follow(String name, DayPort x, int fewest, int... lifts) {
        int before = x.size(8);
        int onQuay = x.size(9);
        int last = 0;
        for (int lift : lifts) {
            int c = x.lift(0, lift / 10, lift % 10);
            CHECK.due(name + ": there is one to lift", c >= 0, true);
            if (lift % 10 == 3) {
                CHECK.due(name + ": by NUMBERS", x.crate(c, 2) > last, true);
                CHECK.due(name + ": whole on the quay", x.quay(onQuay), c);
                last = x.crate(c, 2);
                onQuay++;
            }
        }
        CHECK.due(name + ": LIFTS", x.size(8) - before, fewest);
        CHECK.due(name + ": all are out", x.high(0, 0) + x.high(0, 1) + x.high(0, 2), 0);
    }

    private static void cannot(String name, DayPort x) {
        x.lift(-1, 0, 0);
        CHECK.due(name + ": fewest", x.fewest(0), -2);
        CHECK.due(name + ": trouble", x.trouble(), 0);
        CHECK.refused(x, name + ": liftAt(0, 0)", x.liftAt(0, 0), -1, 6);
        CHECK.due(name + ": where", x.where(), -1);
    }

    // ---- Promise 22: "OUT: LIFTS; -2 it can't be. NONE: 1." Promise 23: "The i-th of these. NONE: 1; 6 (it can't be)."

    private static void plain() {
        out("an empty ship", laid(), 0);
        for (int stack = 0; stack < 3; stack++) {
            out("one", laid("plain " + stack + " 1"), 1, 10 * stack + 3);
        }
        out("in order", laid("plain 2 99", "plain 2 50", "plain 2 1"), 3, 23, 23, 23);
        out("out of order", laid("plain 0 1", "plain 0 2"), 3, 1, 3, 13);
        out("on the last stack", laid("plain 2 1", "plain 2 2"), 3, 20, 23, 3);
        out("on the middle stack", laid("plain 1 98", "wet 1 99"), 3, 10, 13, 3);
    }

    private static void lashed() {
        out("a lashed one", laid("lashed 1 1"), 2, 13);
        out("lashed, in order", laid("lashed 0 2", "lashed 0 1"), 4, 3, 3);
        out("lashed, out of order", laid("lashed 0 1", "lashed 0 2"), 6, 1, 3, 13);
    }

    /** "of like few ones the first by these": by from, then by to. */
    private static void firstOfLike() {
        out("to the lesser stack", laid("plain 1 1", "plain 1 2"), 3, 10, 13, 3);
        out("aside sooner than needed", laid("plain 1 1", "plain 0 2", "plain 0 3"), 4, 2, 13, 3, 23);
        out("two that lie alone", laid("plain 2 1", "plain 0 2"), 2, 23, 3);
    }

    private static void five() {
        out("the least lowest", laid("plain 0 1", "plain 0 2", "plain 0 3", "plain 0 4", "plain 0 5"), 9,
            1, 1, 1, 1, 3, 13, 13, 13, 13);
        out("the greatest lowest", laid("plain 0 5", "plain 0 4", "plain 0 3", "plain 0 2", "plain 0 1"), 5,
            3, 3, 3, 3, 3);
    }

    /** Two crates need to be put aside by turns; the crates that lie below are as they were behind each try. */
    private static void asideByTurns() {
        out("on two stacks", laid("plain 1 1", "plain 2 2", "plain 2 5", "plain 2 4", "plain 2 3"), 9,
            13, 20, 20, 21, 1, 23, 3, 13, 13);
    }

    /** Each has 3 on stack 0, 1 4 on stack 1, 2 5 on stack 2: 4 goes aside twice, 5 once. */
    private static void threeFullShips() {
        DayPort x = Check.of(Check.fullShips(Check.PORT, 1) + ";" + Check.TOWN);
        for (int ship = 0; ship < 3; ship++) {
            CHECK.due("fewest(" + ship + ")", x.fewest(ship), 8);
            CHECK.due("wrongly(" + ship + ")", x.wrongly(ship), 2);
        }
    }

    /** No five crates need more LIFTS than these. */
    private static void fiveInTheWorstOrder() {
        out("on stack 0", laid("plain 0 1", "plain 0 5", "plain 0 4", "plain 0 3", "plain 0 2"), 11,
            1, 1, 1, 2, 3, 10, 10, 13, 3, 3, 23);
        out("on stack 1", laid("wet 1 10", "wet 1 50", "wet 1 40", "wet 1 30", "wet 1 20"), 11,
            10, 10, 10, 12, 2, 2, 13, 3, 23, 23, 23);
        out("on stack 2", laid("lashed 2 95", "lashed 2 99", "lashed 2 98", "lashed 2 97", "lashed 2 96"), 22,
            20, 20, 20, 21, 1, 1, 23, 3, 13, 13, 13);
    }

    /** "none broken": a frail one bears one LIFT. */
    private static void frail() {
        out("a frail one", laid("frail 0 1"), 1, 3);
        out("frail ones in order", laid("frail 0 2", "frail 0 1"), 2, 3, 3);
        cannot("a frail one above a lesser one", laid("plain 0 1", "frail 0 2"));
        cannot("a frail one high above a lesser one", laid("plain 1 1", "plain 1 9", "frail 1 8"));
        out("a frail one below", laid("frail 0 1", "plain 0 2"), 3, 1, 3, 13);
        out("a frail one beside", laid("plain 0 1", "frail 1 2"), 2, 3, 13);
        // To put the frail one aside would be fewer, so the lashed one goes twice.
        out("a lashed one goes round a frail one", laid("plain 0 1", "lashed 0 4", "frail 1 2", "plain 2 3"), 9,
            1, 3, 10, 13, 23, 3);
        DayPort lifted = laid("frail 0 1", "plain 1 2");
        lifted.lift(0, 0, 2);
        cannot("a frail one that was LIFTED once", lifted);
        lifted.lift(0, 2, 0);
        cannot("a broken one on its stack", lifted);
        lifted.lift(0, 0, 3);
        out("the broken one is gone", lifted, 1, 13);
        out("nothing lies on it", lifted, 0);
    }

    private static void asTheyLieNow() {
        DayPort x = laid("plain 0 2", "plain 0 3", "plain 0 1");
        x.lift(0, 0, 3);
        out("what is on the quay is out", x, 3, 1, 3, 13);
        x.undo();
        CHECK.due("undone", x.fewest(0), 1);
        DayPort y = laid("plain 0 2", "plain 0 1");
        y.lift(0, 0, 1);
        y.lift(0, 0, 3);
        out("a greater one on the quay doesn't hinder", y, 1, 13);
    }

    private static void bounds() {
        Edges edges = new Edges(CHECK, () -> Check.of(Check.PORT + ";ship a day 0 chance 0 late 1 says 0;"
            + "ship b day 0 chance 0 late 1 says 0;crate k plain on b stack 0 is 5 weighs 1;"
            + "crate l frail on b stack 0 is 6 weighs 1;crate m lashed on a stack 2 is 7 weighs 1;" + Check.TOWN));
        edges.answers("fewest(0)", x -> x.fewest(0), 2);
        edges.answers("fewest(1)", x -> x.fewest(1), -2);
        edges.answers("liftAt(0, 0)", x -> x.liftAt(0, 0), 23);
        edges.refuses("liftAt(0, 1)", x -> x.liftAt(0, 1), -1, 1);
        edges.refuses("liftAt(0, -1)", x -> x.liftAt(0, -1), -1, 1);
        edges.refuses("liftAt(1, 0)", x -> x.liftAt(1, 0), -1, 6);
        edges.answers("wrongly(0)", x -> x.wrongly(0), 0);
        edges.answers("wrongly(1)", x -> x.wrongly(1), 1);
        for (int ship : new int[] {-1, 2, 3, LEAST, MOST}) {
            edges.refuses("fewest(" + ship + ")", x -> x.fewest(ship), -1, 1);
            edges.refuses("liftAt(" + ship + ", 0)", x -> x.liftAt(ship, 0), -1, 1);
            edges.refuses("wrongly(" + ship + ")", x -> x.wrongly(ship), -1, 1);
        }
    }

    // ---- Promise 24: "How many crates of a ship lie above one of lesser NUMBER on their stack."

    private static void wrongly(int due, String... crates) {
        CHECK.due("wrongly", laid(crates).wrongly(0), due);
    }

    private static void wrongly() {
        wrongly(0);
        wrongly(0, "plain 0 1");
        wrongly(0, "plain 0 5", "plain 0 4", "plain 0 3", "plain 0 2", "plain 0 1");
        wrongly(4, "plain 0 1", "plain 0 2", "plain 0 3", "plain 0 4", "plain 0 5");
        wrongly(4, "plain 2 1", "plain 2 99", "plain 2 98", "plain 2 97", "plain 2 96");
        wrongly(2, "plain 0 3", "plain 0 5", "plain 0 4", "plain 0 2", "plain 0 1");
        wrongly(0, "plain 0 1", "plain 1 2", "plain 2 3");
        wrongly(3, "plain 0 1", "plain 0 2", "plain 1 3", "plain 1 4", "plain 1 5");
        DayPort x = laid("plain 0 2", "plain 0 3", "frail 1 1");
        x.lift(0, 0, 1);
        CHECK.due("NOW above the frail one", x.wrongly(0), 1);
        x.lift(0, 0, 1);
        CHECK.due("both", x.wrongly(0), 2);
        x.lift(0, 1, 3);
        x.lift(0, 1, 3);
        CHECK.due("what is on the quay isn't", x.wrongly(0), 0);
    }

    public static void main(String[] args) {
        plain();
        lashed();
        firstOfLike();
        five();
        asideByTurns();
        threeFullShips();
        fiveInTheWorstOrder();
        frail();
        asTheyLieNow();
        bounds();
        wrongly();
        CHECK.end();
    }
}
