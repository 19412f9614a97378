/** Promises 6 to 14: crates, stacks, the quay, what was HAD. */
public final class NowTest {
    private static final Check CHECK = new Check("NowTest");

    private static DayPort port() {
        return Check.with("crate a plain on s stack 0 is 30 weighs 4", "crate b wet on s stack 0 is 10 weighs 6",
            "crate c frail on s stack 2 is 20 weighs 2", "crate d lashed on s stack 0 is 99 weighs 9");
    }

    private static void crates() {
        DayPort x = port();
        int[][] due = {{0, 0, 30, 4, 0, 0, 0}, {1, 0, 10, 6, 0, 0, 0}, {2, 0, 20, 2, 2, 0, 0}, {3, 0, 99, 9, 0, 0, 0}};
        for (int c = 0; c < due.length; c++) {
            for (int what = 0; what <= 6; what++) {
                CHECK.due("crate(" + c + ", " + what + ")", x.crate(c, what), due[c][what]);
                CHECK.due("trouble", x.trouble(), 0);
            }
        }
        CHECK.refused(x, "crate(-1, 0)", x.crate(-1, 0), -1, 1);
        CHECK.refused(x, "crate(4, 0)", x.crate(4, 0), -1, 1);
        CHECK.refused(x, "crate(0, -1)", x.crate(0, -1), -1, 1);
        CHECK.refused(x, "crate(0, 7)", x.crate(0, 7), -1, 1);
    }

    private static void stacks() {
        DayPort x = port();
        CHECK.due("high", x.high(0, 0), 3);
        CHECK.due("high", x.high(0, 1), 0);
        CHECK.due("high", x.high(0, 2), 1);
        CHECK.due("lies", x.lies(0, 0, 0), 0);
        CHECK.due("lies", x.lies(0, 0, 1), 1);
        CHECK.due("lies", x.lies(0, 0, 2), 3);
        CHECK.due("lies", x.lies(0, 2, 0), 2);
        CHECK.refused(x, "lies(0, 0, 3)", x.lies(0, 0, 3), -1, 1);
        CHECK.refused(x, "lies(0, 0, -1)", x.lies(0, 0, -1), -1, 1);
        CHECK.refused(x, "lies(0, 3, 0)", x.lies(0, 3, 0), -1, 1);
        CHECK.refused(x, "lies(1, 0, 0)", x.lies(1, 0, 0), -1, 1);
        CHECK.refused(x, "high(1, 0)", x.high(1, 0), -1, 1);
        CHECK.refused(x, "high(-1, 0)", x.high(-1, 0), -1, 1);
        CHECK.refused(x, "high(0, -1)", x.high(0, -1), -1, 1);
        CHECK.refused(x, "high(0, 3)", x.high(0, 3), -1, 1);
    }

    private static void wetOnesWait() {
        DayPort x = port();
        x.lift(0, 0, 3);
        x.lift(0, 0, 3);
        x.lift(0, 0, 3);
        CHECK.due("quay(0)", x.quay(0), 3);
        CHECK.due("quay(1)", x.quay(1), 1);
        CHECK.due("quay(2)", x.quay(2), 0);
        CHECK.refused(x, "quay(3)", x.quay(3), -1, 1);
        CHECK.refused(x, "quay(-1)", x.quay(-1), -1, 1);
        CHECK.due("where", x.crate(1, 4), 3);
        CHECK.due("next", x.next(), 3);
        CHECK.due("dawn", x.dawn(), 99);
        CHECK.due("where", x.crate(3, 4), 4);
        CHECK.due("quay(0)", x.quay(0), 1);
        CHECK.due("the wet one is dry", x.next(), 1);
        CHECK.due("dawn", x.dawn(), 10);
        CHECK.due("dawn", x.dawn(), 30);
        CHECK.due("next: nothing", x.next(), -2);
        CHECK.due("trouble", x.trouble(), 0);
        CHECK.refused(x, "quay(0)", x.quay(0), -1, 1);
    }

    private static void wetOneIsPassed() {
        DayPort x = port();
        x.lift(0, 0, 1);
        x.dawn();
        x.lift(0, 0, 3);
        x.lift(0, 0, 3);
        CHECK.due("the wet one came today", x.next(), 0);
        CHECK.due("dawn", x.dawn(), 30);
        CHECK.due("quay(0)", x.quay(0), 1);
        CHECK.due("next", x.next(), 1);
    }

    private static void whatWasHad() {
        DayPort x = port();
        CHECK.refused(x, "had(0)", x.had(0), -1, 1);
        CHECK.due("missing", x.missing(), -2);
        CHECK.due("evenings", x.evenings(), 0);
        x.dawn();
        x.dawn();
        x.lift(0, 2, 3);
        CHECK.due("dawn", x.dawn(), 20);
        CHECK.due("missing", x.missing(), 10);
        x.dawn();
        CHECK.due("evenings", x.evenings(), 2);
        CHECK.due("had(0)", x.had(0), 0);
        CHECK.due("trouble", x.trouble(), 0);
        CHECK.due("had(2)", x.had(2), 20);
        CHECK.due("had(3)", x.had(3), 0);
        CHECK.refused(x, "had(4)", x.had(4), -1, 1);
        CHECK.refused(x, "had(-1)", x.had(-1), -1, 1);
        CHECK.due("hadOn(20)", x.hadOn(20), 2);
        CHECK.due("hadOn(30)", x.hadOn(30), -2);
        CHECK.due("hadOn(1)", x.hadOn(1), -2);
        CHECK.due("trouble", x.trouble(), 0);
        CHECK.refused(x, "hadOn(0)", x.hadOn(0), -1, 2);
        CHECK.refused(x, "hadOn(100)", x.hadOn(100), -1, 2);
        x.dawn();
        x.dawn();
        CHECK.due("evenings", x.evenings(), 3);
        x.lift(0, 0, 3);
        x.lift(0, 0, 3);
        x.dawn();
        x.dawn();
        CHECK.due("hadOn(99)", x.hadOn(99), 6);
        CHECK.due("hadOn(10)", x.hadOn(10), 7);
        CHECK.due("missing", x.missing(), 30);
        x.lift(0, 0, 3);
        x.dawn();
        CHECK.due("missing", x.missing(), -2);
        CHECK.due("evenings", x.evenings(), 3);
    }

    private static void brokenIsMissing() {
        DayPort x = port();
        x.lift(0, 2, 1);
        x.lift(0, 1, 3);
        CHECK.due("gone", x.crate(2, 4), 5);
        x.lift(0, 0, 3);
        x.lift(0, 0, 3);
        x.dawn();
        x.dawn();
        CHECK.due("missing", x.missing(), 20);
    }

    public static void main(String[] args) {
        crates();
        stacks();
        wetOnesWait();
        wetOneIsPassed();
        whatWasHad();
        brokenIsMissing();
        CHECK.end();
    }
}
