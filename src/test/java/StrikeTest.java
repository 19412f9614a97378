/** Promises 36 to 40: a strike, its RESTS, winters by draws. */
public final class StrikeTest {
    private static final Check CHECK = new Check("StrikeTest");

    private static DayPort port(int wage, int gang, int council) {
        return Check.of("port straw 0 wage " + wage + " gang " + gang + " council " + council
            + ";ship a day 10 chance 50 late 5 says 0;ship b day 3 chance 100 late 9 says 0;"
            + "ship c day 14 chance 0 late 30 says 0;" + Check.TOWN);
    }

    private static void pays() {
        DayPort x = port(20, 3, 4);
        CHECK.due("strike(3, 2)", x.strike(3, 2, false), 14);
        CHECK.due("strike(3, 2)", x.strike(3, 2, true), -28);
        CHECK.due("strike(2, 3)", x.strike(2, 3, false), -6);
        CHECK.due("strike(2, 3)", x.strike(2, 3, true), -8);
        CHECK.due("strike(4, 4)", x.strike(4, 4, false), -12);
        CHECK.due("strike(4, 4)", x.strike(4, 4, true), -16);
        CHECK.due("strike(9, 0)", x.strike(9, 0, false), 20);
        CHECK.due("strike(0, 9)", x.strike(0, 9, true), 0);
        CHECK.due("trouble", x.trouble(), 0);
        CHECK.refused(x, "strike(10, 0)", x.strike(10, 0, false), -10000, 2);
        CHECK.refused(x, "strike(0, 10)", x.strike(0, 10, false), -10000, 2);
        CHECK.refused(x, "strike(-1, 0)", x.strike(-1, 0, true), -10000, 2);
        CHECK.refused(x, "strike(0, -1)", x.strike(0, -1, true), -10000, 2);
    }

    private static void rests(int wage, int gang, int council, int... due) {
        DayPort x = port(wage, gang, council);
        CHECK.due("rests", x.rests(), due.length);
        for (int i = 0; i < due.length; i++) {
            CHECK.due("rest(" + i + ")", x.rest(i), due[i]);
        }
        CHECK.due("rests", x.rests(), due.length);
        CHECK.due("trouble", x.trouble(), 0);
        CHECK.refused(x, "rest behind all", x.rest(due.length), -1, 1);
        CHECK.refused(x, "rest(-1)", x.rest(-1), -1, 1);
    }

    private static void rests() {
        // The council gives in at once to 5 days and more; the gang gives in at once to 7 days and more.
        rests(20, 3, 4, 7, 8, 9, 50, 60, 70, 80, 90);
        // A gang that pays nothing always wins but against 9 days; then all its holds are alike.
        rests(1, 0, 30, 9, 10, 20, 30, 40, 50, 60, 70, 80, 90);
        rests(1, 1, 1, 1, 2, 3, 4, 5, 6, 7, 8, 9, 10, 20, 30, 40, 50, 60, 70, 80, 90);
    }

    private static int draw(int seed) {
        return (int) ((75L * seed + 74) % 65537);
    }

    private static void winters() {
        DayPort x = port(20, 3, 4);
        // Seed 0: 74, not late; then whatever it is, b is late, c is not.
        CHECK.due("winter(0)", x.winter(0), 14);
        // Seed 65,536: 65,536 is -1, so -1 is the draw: 65,536 mod 100 is 36, so a is late.
        CHECK.due("winter(65536)", x.winter(65536), 15);
        for (int seed = 0; seed <= 65536; seed += 241) {
            CHECK.due("winter(" + seed + ")", x.winter(seed), draw(seed) % 100 < 50 ? 15 : 14);
        }
        CHECK.due("trouble", x.trouble(), 0);
        CHECK.refused(x, "winter(-1)", x.winter(-1), -1, 2);
        CHECK.refused(x, "winter(65537)", x.winter(65537), -1, 2);
        DayPort y = Check.of(Check.PORT + ";ship a day 10 chance 74 late 5 says 0;" + Check.TOWN);
        CHECK.due("not below its chance", y.winter(0), 10);
        DayPort z = Check.of(Check.PORT + ";ship a day 10 chance 75 late 5 says 0;" + Check.TOWN);
        CHECK.due("below its chance", z.winter(0), 15);
    }

    private static void lates() {
        DayPort x = port(20, 3, 4);
        int seed = 5;
        int times = 0;
        for (int n = 1; n <= 60; n++) {
            seed = draw(seed);
            times += seed % 100 < 50 ? 1 : 0;
            seed = draw(draw(seed));
            CHECK.due("lates(0, 5, " + n + ")", x.lates(0, 5, n), times);
        }
        CHECK.due("always", x.lates(1, 5, 60), 60);
        CHECK.due("never", x.lates(2, 5, 60), 0);
        CHECK.due("trouble", x.trouble(), 0);
        CHECK.refused(x, "lates(3, 0, 0)", x.lates(3, 0, 0), -1, 1);
        CHECK.refused(x, "lates(-1, 0, 1)", x.lates(-1, 0, 1), -1, 1);
        CHECK.refused(x, "lates(0, -1, 1)", x.lates(0, -1, 1), -1, 2);
        CHECK.refused(x, "lates(0, 65537, 1)", x.lates(0, 65537, 1), -1, 2);
        CHECK.refused(x, "lates(0, 0, 0)", x.lates(0, 0, 0), -1, 2);
        CHECK.refused(x, "lates(0, 0, 61)", x.lates(0, 0, 61), -1, 2);
    }

    public static void main(String[] args) {
        pays();
        rests();
        winters();
        lates();
        CHECK.end();
    }
}
