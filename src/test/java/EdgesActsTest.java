/** Promises 41 to 49, sentence by sentence: the edges of LIFT, DAWN, OPEN, UNDO, IMAGES, and of what is told. */
public final class EdgesActsTest {
    private static final Check CHECK = new Check("EdgesActsTest");
    private static final int LEAST = Integer.MIN_VALUE;
    private static final int MOST = Integer.MAX_VALUE;

    private static DayPort told() {
        return Check.of(Check.PORT + ";ship a day 2 chance 20 late 5 says 3;ship b day 6 chance 10 late 3 says 1;"
            + "crate k plain on a stack 0 is 5 weighs 1;crate l lashed on a stack 0 is 4 weighs 2;"
            + "crate m frail on a stack 1 is 3 weighs 3;crate n frail on b stack 2 is 6 weighs 3;opened n day;"
            + Check.TOWN);
    }

    private static DayPort onDay(int day) {
        DayPort x = told();
        for (int i = 0; i < day; i++) {
            x.dawn();
        }
        return x;
    }

    private static long flag(boolean answer) {
        return answer ? 1 : 0;
    }

    // ---- Promise 41: "from a stack (0 .. 2) to another one, or 3: the crate. NONE: 1 (ship, stacks); 5 (nothing lies ..."

    private static void lifts() {
        Edges edges = new Edges(CHECK, EdgesActsTest::told);
        int[][] due = {{0, 0, 1, 1}, {0, 0, 2, 1}, {0, 0, 3, 1}, {0, 1, 0, 2}, {0, 1, 2, 2}, {0, 1, 3, 2}, {1, 2, 0, 3},
            {1, 2, 1, 3}, {1, 2, 3, 3}};
        for (int[] row : due) {
            String call = "lift(" + row[0] + ", " + row[1] + ", " + row[2] + ")";
            DayPort x = edges.acts(call, y -> y.lift(row[0], row[1], row[2]), row[3]);
            CHECK.due(call + ": where", x.crate(row[3], 4), row[2]);
            CHECK.due(call + ": how often", x.crate(row[3], 5), 1);
            CHECK.due(call + ": LIFTS", x.size(8), row[3] == 1 ? 2 : 1);
            CHECK.due(call + ": an ACT", x.size(10), 1);
            CHECK.due(call + ": undo", x.undo(), true);
            CHECK.due(call + ": where it was", x.crate(row[3], 4), row[1]);
            CHECK.due(call + ": LIFTS undone", x.size(8), 0);
        }
    }

    private static void liftsRefused() {
        Edges edges = new Edges(CHECK, EdgesActsTest::told);
        int[][] none = {{-1, 0, 1}, {2, 0, 1}, {LEAST, 0, 1}, {MOST, 0, 1}, {0, -1, 1}, {0, 3, 1}, {0, 3, 3}, {0, 4, 1},
            {0, LEAST, 1}, {0, MOST, 1}, {0, 0, -1}, {0, 0, 4}, {0, 0, LEAST}, {0, 0, MOST}, {0, -1, -1}, {0, 4, 4},
            {0, 2, 4}, {0, 2, -1}, {2, 0, 0}, {-1, 3, 3}};
        for (int[] row : none) {
            String call = "lift(" + row[0] + ", " + row[1] + ", " + row[2] + ")";
            edges.refuses(call, x -> x.lift(row[0], row[1], row[2]), -1, 1);
        }
        int[][] notSo = {{0, 0, 0}, {0, 1, 1}, {0, 2, 2}, {0, 2, 0}, {0, 2, 1}, {0, 2, 3}, {1, 0, 0}, {1, 0, 3}, {1, 1, 2},
            {1, 2, 2}};
        for (int[] row : notSo) {
            String call = "lift(" + row[0] + ", " + row[1] + ", " + row[2] + ")";
            edges.refuses(call, x -> x.lift(row[0], row[1], row[2]), -1, 5);
        }
    }

    /** "to the quay (place 3), where it comes behind all" */
    private static void behindAll() {
        DayPort x = told();
        int[][] lifts = {{0, 0, 1}, {1, 2, 3}, {0, 0, 0}, {0, 1, 2}};
        for (int i = 0; i < lifts.length; i++) {
            CHECK.due("lift", x.lift(lifts[i][0], lifts[i][1], 3), lifts[i][2]);
            CHECK.due("quay(" + i + ")", x.quay(i), lifts[i][2]);
        }
        CHECK.due("dawn", x.dawn(), 4);
        CHECK.due("the others move up", x.quay(0) * 100 + x.quay(1) * 10 + x.quay(2), 302);
        CHECK.refused(x, "quay(3)", x.quay(3), -1, 1);
    }

    // ---- Promise 42: "the NUMBER that is HAD; 0 a long evening. NONE: 1 (no PORT); 3 (99 days went by)."

    private static void dawns() {
        Edges first = new Edges(CHECK, EdgesActsTest::told);
        DayPort x = first.acts("dawn on day 0", DayPort::dawn, 0);
        CHECK.due("day", x.size(7), 1);
        Edges last = new Edges(CHECK, () -> onDay(98));
        DayPort y = last.acts("dawn on day 98", DayPort::dawn, 0);
        CHECK.due("day", y.size(7), 99);
        Edges beyond = new Edges(CHECK, () -> onDay(99));
        beyond.refuses("dawn on day 99", DayPort::dawn, -1, 3);
        DayPort z = onDay(99);
        CHECK.due("other ACTS go on", z.lift(0, 0, 3), 1);
        CHECK.refused(z, "dawn on day 99, one on the quay", z.dawn(), -1, 3);
        CHECK.due("it stays on the quay", z.quay(0), 1);
        CHECK.due("undo the lift", z.undo(), true);
        CHECK.due("undo a dawn", z.undo(), true);
        CHECK.due("day", z.size(7), 98);
        CHECK.due("dawn", z.dawn(), 0);
        CHECK.refused(z, "dawn", z.dawn(), -1, 3);
    }

    // ---- Promise 43: "OPEN: true; false: 1; 5 (it is opened already)."

    private static void opening() {
        Edges edges = new Edges(CHECK, EdgesActsTest::told);
        for (boolean night : new boolean[] {false, true}) {
            for (int c = 0; c < 3; c++) {
                int crate = c;
                DayPort x = edges.acts("open(" + c + ")", y -> flag(y.open(crate, night)), 1);
                CHECK.due("opened NOW", x.size(6), 2);
                CHECK.due("an ACT", x.size(10), 1);
                CHECK.refused(x, "open again", x.open(c, night), 5);
                CHECK.refused(x, "open again, otherwise", x.open(c, !night), 5);
                CHECK.due("opened NOW", x.size(6), 2);
                CHECK.due("undo", x.undo(), true);
                CHECK.due("opened NOW", x.size(6), 1);
                CHECK.due("open", x.open(c, night), true);
            }
            edges.refuses("open(3), told as opened", x -> flag(x.open(3, night)), 0, 5);
            for (int c : new int[] {-1, 4, 15, LEAST, MOST}) {
                edges.refuses("open(" + c + ")", x -> flag(x.open(c, night)), 0, 1);
            }
        }
        DayPort x = told();
        x.lift(0, 1, 2);
        x.lift(0, 2, 3);
        CHECK.due("one that is gone is opened too", x.open(2, true), true);
        CHECK.due("opened NOW", x.size(6), 2);
    }

    // ---- Promise 44: "UNDO: true; false: 6.", "the latest (16 are kept)"

    private static void undoing() {
        new Edges(CHECK, EdgesActsTest::told).refuses("undo, nothing done", x -> flag(x.undo()), 0, 6);
        for (int acts = 1; acts <= 20; acts++) {
            DayPort x = onDay(acts);
            int kept = Math.min(acts, 16);
            CHECK.due("size(10) of " + acts, x.size(10), kept);
            for (int i = 1; i <= kept; i++) {
                x.crate(-1, 0);
                CHECK.due("undo", x.undo(), true);
                CHECK.due("trouble", x.trouble(), 0);
                CHECK.due("day", x.size(7), acts - i);
                CHECK.due("size(10)", x.size(10), kept - i);
            }
            CHECK.refused(x, "undo beyond", x.undo(), 6);
            CHECK.due("day", x.size(7), acts - kept);
        }
    }

    /** UNDOS and ACTS by turns, so that the row of kept ones wraps around more than once. */
    private static void undoneAndDone() {
        DayPort x = onDay(16);
        x.undo();
        x.lift(0, 0, 3);
        CHECK.due("sixteen again", x.size(10), 16);
        x.open(0, true);
        CHECK.due("still sixteen", x.size(10), 16);
        CHECK.due("undo open", x.undo() && x.size(6) == 1 && x.size(9) == 1, true);
        CHECK.due("undo lift", x.undo() && x.size(9) == 0 && x.size(7) == 15, true);
        for (int day = 14; day >= 1; day--) {
            CHECK.due("undo dawn", x.undo(), true);
            CHECK.due("day", x.size(7), day);
        }
        CHECK.refused(x, "the first DAWN isn't kept", x.undo(), 6);
        for (int i = 0; i < 40; i++) {
            x.dawn();
        }
        for (int day = 40; day >= 25; day--) {
            CHECK.due("undo dawn", x.undo(), true);
            CHECK.due("day", x.size(7), day);
        }
        CHECK.refused(x, "sixteen are kept", x.undo(), 6);
    }

    private static void refusedOnesAreNotKept() {
        DayPort x = onDay(2);
        x.lift(0, 2, 1);
        x.lift(9, 0, 1);
        x.open(3, true);
        x.open(9, true);
        x.back(0);
        x.image();
        CHECK.due("size(10)", x.size(10), 2);
        CHECK.due("undo", x.undo() && x.size(7) == 1, true);
    }

    // ---- Promise 45: "An IMAGE: its number. NONE: 1 (no PORT); 3." "IMAGES: up to 3"

    private static DayPort imaged(int images) {
        DayPort x = told();
        for (int i = 0; i < images; i++) {
            x.image();
            x.dawn();
            x.lift(0, 0, 2);
        }
        return x;
    }

    private static void images() {
        for (int i = 0; i < 3; i++) {
            int count = i;
            Edges edges = new Edges(CHECK, () -> imaged(count));
            DayPort x = edges.acts("image", DayPort::image, i);
            CHECK.due("size(11)", x.size(11), i + 1);
            CHECK.due("no ACT", x.size(10), imaged(count).size(10));
        }
        new Edges(CHECK, () -> imaged(3)).refuses("a fourth image", DayPort::image, -1, 3);
    }

    // ---- Promise 46: "All is as by an IMAGE (all IMAGES stay): true; false: 1."

    private static void back() {
        for (int images = 0; images <= 3; images++) {
            int count = images;
            Edges edges = new Edges(CHECK, () -> imaged(count));
            for (int i : new int[] {-1, images, images + 1, 3, LEAST, MOST}) {
                edges.refuses("back(" + i + ") of " + images, x -> flag(x.back(i)), 0, 1);
            }
            for (int i = 0; i < images; i++) {
                int at = i;
                DayPort x = edges.acts("back(" + i + ")", y -> flag(y.back(at)), 1);
                CHECK.due("day", x.size(7), i);
                CHECK.due("all IMAGES stay", x.size(11), images);
                CHECK.due("nothing to undo", x.size(10), 0);
                CHECK.refused(x, "undo", x.undo(), 6);
            }
        }
    }

    private static DayPort imagedInTheMiddle() {
        DayPort x = told();
        x.lift(0, 1, 2);
        x.lift(0, 0, 3);
        x.dawn();
        x.open(0, true);
        x.image();
        return x;
    }

    private static void allAsByTheImage() {
        DayPort x = imagedInTheMiddle();
        DayPort y = imagedInTheMiddle();
        y.lift(0, 2, 3);
        y.lift(0, 0, 3);
        y.dawn();
        y.dawn();
        y.open(1, false);
        CHECK.due("back(0)", y.back(0), true);
        x.back(0);
        CHECK.due("all is as it was", Edges.seen(y), Edges.seen(x));
        y.dawn();
        CHECK.due("ACTS behind it can be undone", y.undo() && y.size(7) == 1, true);
        y.dawn();
        y.lift(0, 0, 3);
        CHECK.due("gone back to twice", y.back(0) && y.size(7) == 1 && y.size(9) == 0, true);
    }

    /** Places on stacks and on the quay that others took in the meantime are as they were. */
    private static void placesTakenByOthers() {
        for (boolean byImage : new boolean[] {false, true}) {
            DayPort x = Check.with("crate k plain on s stack 0 is 1 weighs 1", "crate l plain on s stack 0 is 2 weighs 1",
                "crate m plain on s stack 1 is 3 weighs 1", "crate n plain on s stack 2 is 4 weighs 1");
            x.lift(0, 1, 3);
            x.lift(0, 2, 3);
            x.image();
            x.lift(0, 0, 1);
            x.lift(0, 0, 2);
            x.lift(0, 1, 0);
            x.lift(0, 2, 0);
            x.dawn();
            CHECK.due("turned over", x.lies(0, 0, 0) * 100 + x.lies(0, 0, 1) * 10 + x.quay(0), 103);
            for (int i = 0; i < 5 && !byImage; i++) {
                x.undo();
            }
            if (byImage) {
                x.back(0);
            }
            CHECK.due("as they lay", x.lies(0, 0, 0) * 10 + x.lies(0, 0, 1), 1);
            CHECK.due("as they lay on the quay", x.quay(0) * 10 + x.quay(1), 23);
            CHECK.due("dawn", x.dawn(), 3);
        }
    }

    /** A wet one that came on another day in the meantime is as wet as by the IMAGE. */
    private static void wetByTheImage() {
        DayPort x = Check.with("crate k wet on s stack 0 is 1 weighs 1");
        x.image();
        x.lift(0, 0, 3);
        x.image();
        x.dawn();
        x.image();
        CHECK.due("dry", x.next(), 0);
        x.back(0);
        x.dawn();
        x.dawn();
        x.lift(0, 0, 3);
        CHECK.due("wet", x.next(), -2);
        x.back(2);
        CHECK.due("dry by the IMAGE", x.next(), 0);
        CHECK.due("dawn", x.dawn(), 1);
        x.back(1);
        CHECK.due("wet by the IMAGE", x.next(), -2);
    }

    // ---- Promise 47: "The i-th crate, by numbers of crates, that is broken. NoSuchElementException if there is none such."

    private static void led() {
        DayPort none = new DayPort();
        for (int i : new int[] {0, 1, -1, LEAST, MOST}) {
            CHECK.brokenIs(none, i, -1);
        }
        DayPort x = told();
        CHECK.brokenIs(x, 0, -1);
        x.lift(1, 2, 0);
        CHECK.brokenIs(x, 0, -1);
        x.lift(1, 0, 1);
        CHECK.brokenIs(x, 0, 3);
        CHECK.brokenIs(x, 1, -1);
        x.lift(0, 1, 2);
        CHECK.brokenIs(x, 1, -1);
        x.lift(0, 2, 3);
        // The one that broke last has the lesser number, and is gone.
        CHECK.brokenIs(x, 0, 2);
        CHECK.brokenIs(x, 1, 3);
        for (int i : new int[] {2, 3, -1, LEAST, MOST}) {
            CHECK.brokenIs(x, i, -1);
        }
        x.undo();
        CHECK.brokenIs(x, 0, 3);
        CHECK.brokenIs(x, 1, -1);
    }

    private static void allFifteenBroken() {
        DayPort x = Check.of(Check.fullShips(Check.PORT, 1).replace("wet", "frail") + ";" + Check.TOWN);
        for (int i = 0; i < 15; i++) {
            int stack = new int[] {0, 1, 1, 2, 2}[i % 5];
            int other = stack == 0 ? 1 : 0;
            int c = x.lift(i / 5, stack, other);
            x.lift(i / 5, other, 3);
            CHECK.due("gone", x.crate(c, 4), 5);
            CHECK.brokenIs(x, i + 1, -1);
        }
        for (int i = 0; i < 15; i++) {
            CHECK.brokenIs(x, i, i);
        }
        CHECK.brokenIs(x, 15, -1);
        CHECK.due("nothing on the quay", x.size(9), 0);
        CHECK.due("nothing missing, as nothing was HAD", x.missing(), -2);
        CHECK.due("nothing on board", x.weight(0) + x.weight(1) + x.weight(2), 0);
    }

    // ---- Promise 48: "NONE for others; 0 for what there isn't."

    private static void sizes() {
        int[] atFirst = {33, 20, 2, 4, 1, 0, 1, 0, 0, 0, 0, 0, 0};
        DayPort x = told();
        DayPort none = new DayPort();
        for (int what = 0; what < atFirst.length; what++) {
            CHECK.due("size(" + what + ")", x.size(what), atFirst[what]);
            CHECK.due("size(" + what + ") without a PORT", none.size(what), 0);
        }
        for (int what : new int[] {-1, 13, 14, LEAST, MOST}) {
            CHECK.due("size(" + what + ")", x.size(what), -1);
            CHECK.due("size(" + what + ") without a PORT", none.size(what), -1);
        }
        DayPort full = Check.of(Check.fullShips("port straw 999 wage 99 gang 30 council 30", 30) + ";town ta people 1;"
            + "town tb people 1;town tc people 1;town td people 1;town te people 1");
        int[] most = {999, 99, 3, 15, 5, 0, 0, 0, 0, 0, 0, 0, 0};
        for (int what = 0; what < most.length; what++) {
            CHECK.due("size(" + what + ")", full.size(what), most[what]);
        }
        for (int c = 0; c < 15; c++) {
            full.open(c, c % 2 == 0);
            CHECK.due("size(6)", full.size(6), c + 1);
        }
    }

    // ---- Promise 49: "TROUBLE of the latest call that may be refused (those of which a number is told here)"

    private static void trouble() {
        Edges edges = new Edges(CHECK, EdgesActsTest::told);
        edges.leavesTrouble("size(0)", x -> x.size(0), 33);
        edges.leavesTrouble("size(13)", x -> x.size(13), -1);
        edges.leavesTrouble("fault()", DayPort::fault, 1);
        edges.leavesTrouble("where()", DayPort::where, 0);
        edges.leavesTrouble("trouble()", DayPort::trouble, 4);
        edges.leavesTrouble("feed()", x -> x.feed(0, 0, 0, 0, 0), 20);
        edges.leavesTrouble("led(0)", x -> broken(x, 0), -1);
        Edges one = new Edges(CHECK, () -> {
            DayPort x = told();
            x.lift(0, 1, 2);
            x.lift(0, 2, 0);
            return x;
        });
        one.leavesTrouble("led(0)", x -> broken(x, 0), 2);
    }

    private static int broken(DayPort x, int i) {
        try {
            return x.led(i);
        } catch (java.util.NoSuchElementException e) {
            return -1;
        }
    }

    private static void fullTapeLeavesTrouble() {
        DayPort x = told();
        x.lift(0, 0, 0);
        for (int i = 0; i < 50; i++) {
            x.feed(0, 0, 0, 0, 0);
            CHECK.due("trouble", x.trouble(), 5);
        }
        CHECK.due("feed beyond", x.feed(0, 0, 0, 0, 0), -1);
        CHECK.due("trouble", x.trouble(), 5);
    }

    // ---- "An object is used for at most 512 calls after it has been made"

    private static void fiveHundredAndTwelveCalls() {
        DayPort x = new DayPort();
        String text = Check.PORT + ";" + Check.SHIP + ";crate c plain on s stack 0 is 1 weighs 1;" + Check.TOWN;
        Check.feed(x, text);
        int calls = Check.rows(text).length + 1;
        CHECK.due("port", x.port(text.length()), 1);
        for (int i = 0; calls < 511; i++) {
            CHECK.due("call " + calls, x.lift(0, i % 3, (i + 1) % 3), 0);
            calls++;
        }
        CHECK.due("call 512", x.size(8), 511 - Check.rows(text).length - 1);
    }

    public static void main(String[] args) {
        lifts();
        liftsRefused();
        behindAll();
        dawns();
        opening();
        undoing();
        undoneAndDone();
        refusedOnesAreNotKept();
        images();
        back();
        allAsByTheImage();
        placesTakenByOthers();
        wetByTheImage();
        led();
        allFifteenBroken();
        sizes();
        trouble();
        fullTapeLeavesTrouble();
        fiveHundredAndTwelveCalls();
        CHECK.end();
    }
}
