/** Promises 22 to 24: OUT by the fewest LIFTS, and what lies wrongly. */
public final class LiftsTest {
    private static final Check CHECK = new Check("LiftsTest");

    private static void out(DayPort x, int ship, int fewest, int... lifts) {
        CHECK.due("fewest", x.fewest(ship), fewest);
        CHECK.due("trouble", x.trouble(), 0);
        for (int i = 0; i < lifts.length; i++) {
            CHECK.due("liftAt(" + i + ")", x.liftAt(ship, i), lifts[i]);
            CHECK.due("trouble", x.trouble(), 0);
        }
        CHECK.refused(x, "liftAt behind all", x.liftAt(ship, lifts.length), -1, 1);
        CHECK.refused(x, "liftAt(-1)", x.liftAt(ship, -1), -1, 1);
    }

    private static void cannot(DayPort x, int ship) {
        CHECK.due("fewest", x.fewest(ship), -2);
        CHECK.due("trouble", x.trouble(), 0);
        CHECK.refused(x, "liftAt(0)", x.liftAt(ship, 0), -1, 6);
    }

    private static void plain() {
        out(Check.with(), 0, 0);
        out(Check.with("crate a plain on s stack 2 is 9 weighs 1"), 0, 1, 23);
        out(Check.with("crate a plain on s stack 1 is 9 weighs 1", "crate b plain on s stack 1 is 3 weighs 1"), 0, 2,
            13, 13);
        out(Check.with("crate a plain on s stack 1 is 3 weighs 1", "crate b wet on s stack 1 is 9 weighs 1"), 0, 3,
            10, 13, 3);
        // Of like few ones the first by their numbers: the crate put aside goes first, though it need not.
        out(Check.with("crate a plain on s stack 1 is 1 weighs 1", "crate b plain on s stack 0 is 2 weighs 1",
            "crate c plain on s stack 0 is 3 weighs 1"), 0, 4,
            2, 13, 3, 23);
    }

    private static void lashed() {
        out(Check.with("crate a plain on s stack 0 is 1 weighs 1", "crate b lashed on s stack 0 is 2 weighs 1"), 0, 5,
            1, 3, 13);
        out(Check.with("crate a lashed on s stack 0 is 2 weighs 1", "crate b lashed on s stack 0 is 1 weighs 1"), 0, 4,
            3, 3);
    }

    private static void frail() {
        cannot(Check.with("crate a plain on s stack 0 is 1 weighs 1", "crate b frail on s stack 0 is 2 weighs 1"), 0);
        out(Check.with("crate a frail on s stack 0 is 2 weighs 1", "crate b frail on s stack 0 is 1 weighs 1"), 0, 2,
            3, 3);
        DayPort x = Check.with("crate a frail on s stack 0 is 2 weighs 1", "crate b plain on s stack 0 is 9 weighs 1");
        out(x, 0, 3, 1, 3, 13);
        x.lift(0, 0, 2);
        out(x, 0, 2, 3, 23);
        x.lift(0, 0, 1);
        cannot(x, 0);
        x.lift(0, 1, 0);
        cannot(x, 0);
        x.lift(0, 0, 3);
        out(x, 0, 1, 23);
        x.lift(0, 2, 3);
        out(x, 0, 0);
    }

    private static void eachShipAlone() {
        DayPort x = Check.of(Check.PORT + ";ship a day 0 chance 0 late 1 says 0;ship b day 0 chance 0 late 1 says 0;"
            + "crate k plain on a stack 0 is 5 weighs 1;crate l plain on b stack 1 is 1 weighs 1;"
            + "crate m plain on a stack 0 is 6 weighs 1;" + Check.TOWN);
        out(x, 0, 3, 1, 3, 13);
        out(x, 1, 1, 13);
        CHECK.due("liftAt without fewest", x.liftAt(0, 0), 1);
        CHECK.due("liftAt without fewest", x.liftAt(1, 0), 13);
        x.lift(0, 0, 2);
        CHECK.due("liftAt as they lie NOW", x.liftAt(0, 0), 3);
        CHECK.refused(x, "fewest(2)", x.fewest(2), -1, 1);
        CHECK.refused(x, "fewest(-1)", x.fewest(-1), -1, 1);
        CHECK.refused(x, "liftAt(2, 0)", x.liftAt(2, 0), -1, 1);
        CHECK.refused(x, "liftAt(-1, 0)", x.liftAt(-1, 0), -1, 1);
    }

    private static void wrongly() {
        DayPort x = Check.with("crate a plain on s stack 0 is 3 weighs 1", "crate b plain on s stack 0 is 5 weighs 1",
            "crate c plain on s stack 0 is 4 weighs 1", "crate d plain on s stack 0 is 2 weighs 1",
            "crate e plain on s stack 1 is 1 weighs 1");
        CHECK.due("wrongly", x.wrongly(0), 2);
        x.lift(0, 0, 1);
        CHECK.due("wrongly", x.wrongly(0), 3);
        x.lift(0, 1, 3);
        CHECK.due("wrongly", x.wrongly(0), 2);
        CHECK.due("trouble", x.trouble(), 0);
        CHECK.refused(x, "wrongly(1)", x.wrongly(1), -1, 1);
        CHECK.refused(x, "wrongly(-1)", x.wrongly(-1), -1, 1);
    }

    public static void main(String[] args) {
        plain();
        lashed();
        frail();
        eachShipAlone();
        wrongly();
        CHECK.end();
    }
}
