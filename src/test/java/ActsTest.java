/** Promises 41 to 49: LIFT, DAWN, OPEN, UNDO, IMAGES, what is told. */
public final class ActsTest {
    private static final Check CHECK = new Check("ActsTest");

    private static DayPort port() {
        return Check.with("crate a plain on s stack 0 is 5 weighs 1", "crate b lashed on s stack 0 is 4 weighs 2",
            "crate c frail on s stack 1 is 3 weighs 3", "crate d frail on s stack 2 is 6 weighs 3", "opened d day");
    }

    private static void lifts() {
        DayPort x = port();
        CHECK.due("lift", x.lift(0, 0, 2), 1);
        CHECK.due("trouble", x.trouble(), 0);
        CHECK.due("two of a lashed one", x.size(8), 2);
        CHECK.due("LIFTED once", x.crate(1, 5), 1);
        CHECK.due("where", x.crate(1, 4), 2);
        CHECK.due("lies", x.lies(0, 2, 1), 1);
        CHECK.due("high", x.high(0, 0), 1);
        CHECK.due("lift", x.lift(0, 0, 3), 0);
        CHECK.due("one of a plain one", x.size(8), 3);
        CHECK.due("lift", x.lift(0, 2, 3), 1);
        CHECK.due("quay(1)", x.quay(1), 1);
        CHECK.due("size(9)", x.size(9), 2);
        CHECK.due("size(8)", x.size(8), 5);
        CHECK.refused(x, "nothing lies there", x.lift(0, 0, 1), -1, 5);
        CHECK.refused(x, "they are one", x.lift(0, 1, 1), -1, 5);
        CHECK.refused(x, "lift(1, 0, 1)", x.lift(1, 0, 1), -1, 1);
        CHECK.refused(x, "lift(-1, 0, 1)", x.lift(-1, 0, 1), -1, 1);
        CHECK.refused(x, "lift(0, 3, 1)", x.lift(0, 3, 1), -1, 1);
        CHECK.refused(x, "lift(0, -1, 1)", x.lift(0, -1, 1), -1, 1);
        CHECK.refused(x, "lift(0, 1, 4)", x.lift(0, 1, 4), -1, 1);
        CHECK.refused(x, "lift(0, 1, -1)", x.lift(0, 1, -1), -1, 1);
        CHECK.refused(x, "lift(0, 3, 3)", x.lift(0, 3, 3), -1, 1);
        CHECK.due("refused ones aren't acts", x.size(10), 3);
    }

    private static void breaking() {
        DayPort x = port();
        CHECK.brokenIs(x, 0, -1);
        x.lift(0, 1, 2);
        CHECK.due("not broken yet", x.crate(2, 6), 0);
        x.lift(0, 2, 1);
        CHECK.due("broken", x.crate(2, 6), 1);
        CHECK.due("on its stack", x.crate(2, 4), 1);
        CHECK.due("LIFTED", x.crate(2, 5), 2);
        CHECK.brokenIs(x, 0, 2);
        CHECK.brokenIs(x, 1, -1);
        CHECK.brokenIs(x, -1, -1);
        CHECK.due("lift", x.lift(0, 1, 3), 2);
        CHECK.due("gone", x.crate(2, 4), 5);
        CHECK.due("LIFTED", x.crate(2, 5), 3);
        CHECK.due("not on the quay", x.size(9), 0);
        CHECK.due("still broken", x.crate(2, 6), 1);
        CHECK.brokenIs(x, 0, 2);
        x.lift(0, 2, 0);
        CHECK.due("lift", x.lift(0, 0, 3), 3);
        CHECK.due("broken on its way", x.crate(3, 4), 5);
        CHECK.brokenIs(x, 0, 2);
        CHECK.brokenIs(x, 1, 3);
        CHECK.brokenIs(x, 2, -1);
        CHECK.due("dawn", x.dawn(), 0);
        DayPort y = port();
        y.lift(0, 2, 3);
        CHECK.due("whole on the quay", y.crate(3, 4), 3);
        CHECK.due("whole on the quay", y.crate(3, 6), 0);
    }

    private static void dawns() {
        DayPort x = port();
        x.lift(0, 0, 3);
        CHECK.due("dawn", x.dawn(), 4);
        CHECK.due("trouble", x.trouble(), 0);
        for (int day = 1; day < 99; day++) {
            CHECK.due("size(7)", x.size(7), day);
            CHECK.due("dawn", x.dawn(), 0);
        }
        CHECK.due("size(7)", x.size(7), 99);
        CHECK.refused(x, "dawn", x.dawn(), -1, 3);
        CHECK.due("size(7)", x.size(7), 99);
        CHECK.due("had(98)", x.had(98), 0);
        CHECK.due("evenings", x.evenings(), 98);
        CHECK.due("undo", x.undo(), true);
        CHECK.due("dawn", x.dawn(), 0);
    }

    private static void opening() {
        DayPort x = port();
        CHECK.due("size(6)", x.size(6), 1);
        CHECK.due("open", x.open(0, true), true);
        CHECK.due("trouble", x.trouble(), 0);
        CHECK.due("size(6)", x.size(6), 2);
        CHECK.refused(x, "opened already", x.open(0, false), 5);
        CHECK.refused(x, "opened as told", x.open(3, true), 5);
        CHECK.refused(x, "open(4)", x.open(4, true), 1);
        CHECK.refused(x, "open(-1)", x.open(-1, true), 1);
        CHECK.due("could", x.could() & 8, 0);
    }

    private static void undoing() {
        DayPort x = port();
        CHECK.refused(x, "undo", x.undo(), 6);
        x.lift(0, 1, 2);
        x.lift(0, 2, 1);
        x.lift(0, 1, 3);
        x.open(0, true);
        x.lift(0, 0, 3);
        x.dawn();
        CHECK.due("size(10)", x.size(10), 6);
        CHECK.due("undo dawn", x.undo(), true);
        CHECK.due("trouble", x.trouble(), 0);
        CHECK.due("size(7)", x.size(7), 0);
        CHECK.due("quay(0)", x.quay(0), 1);
        CHECK.due("hadOn(4)", x.hadOn(4), -2);
        CHECK.due("undo lift", x.undo(), true);
        CHECK.due("size(8)", x.size(8), 3);
        CHECK.due("lies", x.lies(0, 0, 1), 1);
        CHECK.due("undo open", x.undo(), true);
        CHECK.due("size(6)", x.size(6), 1);
        CHECK.due("undo the breaking", x.undo(), true);
        CHECK.due("where", x.crate(2, 4), 1);
        CHECK.due("undo", x.undo(), true);
        CHECK.due("whole again", x.crate(2, 6), 0);
        CHECK.due("undo", x.undo(), true);
        CHECK.due("LIFTED", x.crate(2, 5), 0);
        CHECK.refused(x, "undo", x.undo(), 6);
        for (int i = 0; i < 20; i++) {
            x.dawn();
            CHECK.due("size(10)", x.size(10), Math.min(16, i + 1));
        }
        for (int i = 0; i < 16; i++) {
            CHECK.due("undo", x.undo(), true);
        }
        CHECK.due("size(7)", x.size(7), 4);
        CHECK.refused(x, "only 16 are kept", x.undo(), 6);
    }

    private static void images() {
        DayPort x = port();
        CHECK.refused(x, "back(0)", x.back(0), 1);
        CHECK.due("image", x.image(), 0);
        CHECK.due("trouble", x.trouble(), 0);
        x.lift(0, 0, 3);
        x.dawn();
        x.open(2, false);
        CHECK.due("image", x.image(), 1);
        CHECK.due("an image is no act", x.size(10), 3);
        x.lift(0, 0, 3);
        CHECK.due("image", x.image(), 2);
        CHECK.refused(x, "image", x.image(), -1, 3);
        CHECK.due("size(11)", x.size(11), 3);
        CHECK.due("back(0)", x.back(0), true);
        CHECK.due("trouble", x.trouble(), 0);
        CHECK.due("size(7)", x.size(7), 0);
        CHECK.due("high", x.high(0, 0), 2);
        CHECK.due("size(6)", x.size(6), 1);
        CHECK.due("size(8)", x.size(8), 0);
        CHECK.due("size(11)", x.size(11), 3);
        CHECK.refused(x, "nothing to undo", x.undo(), 6);
        CHECK.due("back(2)", x.back(2), true);
        CHECK.due("quay(0)", x.quay(0), 0);
        CHECK.due("size(8)", x.size(8), 3);
        CHECK.due("back(1)", x.back(1), true);
        CHECK.due("size(9)", x.size(9), 0);
        CHECK.due("hadOn(4)", x.hadOn(4), 0);
        CHECK.refused(x, "back(3)", x.back(3), 1);
        CHECK.refused(x, "back(-1)", x.back(-1), 1);
        x.dawn();
        CHECK.due("undo behind an image", x.undo(), true);
        CHECK.due("size(7)", x.size(7), 1);
        CHECK.due("images are as they were", x.back(0) && x.high(0, 0) == 2 && x.crate(2, 4) == 1, true);
    }

    private static void told() {
        DayPort x = Check.of(Check.PORT + ";" + Check.SHIP + ";" + Check.TOWN + ";town u people 1;road u t days 1;"
            + "crate a plain on s stack 0 is 5 weighs 1;opened a day");
        x.feed(0, 0, 0, 0, 0);
        x.dawn();
        x.lift(0, 0, 3);
        x.image();
        int[] due = {33, 20, 1, 1, 2, 1, 1, 1, 1, 1, 2, 1, 20};
        for (int what = 0; what < due.length; what++) {
            CHECK.due("size(" + what + ")", x.size(what), due[what]);
        }
        CHECK.due("size(13)", x.size(13), -1);
        CHECK.due("size(-1)", x.size(-1), -1);
    }

    private static void troubleStays() {
        DayPort x = port();
        x.lift(0, 0, 0);
        x.size(99);
        x.feed(0, 0, 0, 0, 0);
        x.fault();
        x.where();
        CHECK.brokenIs(x, 7, -1);
        CHECK.due("trouble of the latest that may be refused", x.trouble(), 5);
        CHECK.due("trouble twice", x.trouble(), 5);
        x.next();
        CHECK.due("trouble", x.trouble(), 0);
    }

    public static void main(String[] args) {
        lifts();
        breaking();
        dawns();
        opening();
        undoing();
        images();
        told();
        troubleStays();
        CHECK.end();
    }
}
