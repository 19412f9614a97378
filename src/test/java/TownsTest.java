/** Promises 30 to 35: SHARES, LATE, WAY, how days are had inland. */
public final class TownsTest {
    private static final Check CHECK = new Check("TownsTest");

    private static DayPort port() {
        return Check.with("crate c plain on s stack 0 is 8 weighs 1", "town a people 50", "town b people 30",
            "town d people 20", "town e people 7", "road a b days 2", "road d b days 3", "road a d days 5");
    }

    /** Towns in this order: a, b, d, e and t, whose LINE is the last; a is the port's. */
    private static void shares() {
        DayPort x = port();
        int[] due = {44, 26, 18, 6, 6};
        for (int town = 0; town < due.length; town++) {
            CHECK.due("share(" + town + ", 100)", x.share(town, 100), due[town]);
            CHECK.due("share(" + town + ", 0)", x.share(town, 0), 0);
        }
        CHECK.due("share(0, 1)", x.share(0, 1), 1);
        CHECK.due("share(1, 1)", x.share(1, 1), 0);
        CHECK.due("trouble", x.trouble(), 0);
        CHECK.refused(x, "share(5, 0)", x.share(5, 0), -1, 1);
        CHECK.refused(x, "share(-1, 0)", x.share(-1, 0), -1, 1);
        CHECK.refused(x, "share(5, -1)", x.share(5, -1), -1, 1);
        CHECK.refused(x, "share(0, -1)", x.share(0, -1), -1, 2);
        CHECK.refused(x, "share(0, 10000)", x.share(0, 10000), -1, 2);
        DayPort y = Check.of(Check.PORT + ";" + Check.SHIP + ";town a people 1;town b people 1;town c people 1");
        CHECK.due("share of like rests", y.share(0, 5), 2);
        CHECK.due("share of like rests", y.share(1, 5), 2);
        CHECK.due("share of like rests", y.share(2, 5), 1);
        CHECK.due("share(2, 9999)", y.share(2, 9999), 3333);
    }

    private static void way(DayPort x, int town, int late, int... towns) {
        CHECK.due("late(" + town + ")", x.late(town), late);
        CHECK.due("trouble", x.trouble(), 0);
        for (int i = 0; i < towns.length; i++) {
            CHECK.due("wayAt(" + town + ", " + i + ")", x.wayAt(town, i), towns[i]);
            CHECK.due("trouble", x.trouble(), 0);
        }
        CHECK.refused(x, "wayAt behind all", x.wayAt(town, towns.length), -1, 1);
        CHECK.refused(x, "wayAt(-1)", x.wayAt(town, -1), -1, 1);
        CHECK.refused(x, "wayAt far off", x.wayAt(town, Integer.MAX_VALUE), -1, 1);
    }

    private static void ways() {
        DayPort x = port();
        way(x, 0, 0, 0);
        way(x, 1, 2, 0, 1);
        way(x, 2, 5, 0, 1, 2);
        way(x, 3, -2);
        CHECK.due("farthest", x.farthest(), 2);
        CHECK.refused(x, "late(5)", x.late(5), -1, 1);
        CHECK.refused(x, "late(-1)", x.late(-1), -1, 1);
        CHECK.refused(x, "wayAt(5, 0)", x.wayAt(5, 0), -1, 1);
        CHECK.refused(x, "wayAt(-1, 0)", x.wayAt(-1, 0), -1, 1);
    }

    private static void firstOfLikeWays() {
        DayPort x = Check.of(Check.PORT + ";" + Check.SHIP + ";town a people 1;town b people 1;town c people 1;"
            + "town d people 1;town e people 1;road a e days 1;road e d days 1;road a c days 1;road d c days 1;"
            + "road a b days 2;road b d days 9");
        way(x, 3, 2, 0, 2, 3);
        way(x, 1, 2, 0, 1);
        CHECK.due("farthest, the first such", x.farthest(), 1);
        DayPort y = Check.of(Check.PORT + ";" + Check.SHIP + ";town a people 1;town b people 1");
        CHECK.due("farthest, the only one", y.farthest(), 0);
        CHECK.due("trouble", y.trouble(), 0);
    }

    private static void inland() {
        DayPort x = port();
        x.dawn();
        CHECK.due("inland", x.inland(0, 8), -2);
        CHECK.due("people", x.people(8, 999), -114);
        x.lift(0, 0, 3);
        x.dawn();
        int[] due = {1, 3, 6, -2, -2};
        for (int town = 0; town < due.length; town++) {
            CHECK.due("inland(" + town + ", 8)", x.inland(town, 8), due[town]);
        }
        CHECK.due("inland(0, 9)", x.inland(0, 9), -2);
        CHECK.due("trouble", x.trouble(), 0);
        CHECK.refused(x, "inland(5, 0)", x.inland(5, 0), -1, 1);
        CHECK.refused(x, "inland(-1, 8)", x.inland(-1, 8), -1, 1);
        CHECK.refused(x, "inland(0, 0)", x.inland(0, 0), -1, 2);
        CHECK.refused(x, "inland(0, 100)", x.inland(0, 100), -1, 2);
        CHECK.due("people(8, 0)", x.people(8, 0), -114);
        CHECK.due("people(8, 1)", x.people(8, 1), 50 - 64);
        CHECK.due("people(8, 3)", x.people(8, 3), 80 - 34);
        CHECK.due("people(8, 5)", x.people(8, 5), 80 - 34);
        CHECK.due("people(8, 6)", x.people(8, 6), 100 - 14);
        CHECK.due("people(8, 999)", x.people(8, 999), 100 - 14);
        CHECK.due("people(1, 999)", x.people(1, 999), -114);
        CHECK.due("trouble", x.trouble(), 0);
        CHECK.refused(x, "people(0, 0)", x.people(0, 0), -10000, 2);
        CHECK.refused(x, "people(100, 0)", x.people(100, 0), -10000, 2);
        CHECK.refused(x, "people(8, -1)", x.people(8, -1), -10000, 2);
        CHECK.refused(x, "people(8, 1000)", x.people(8, 1000), -10000, 2);
    }

    private static void roadsOfThePortBefore() {
        DayPort x = port();
        Check.tell(x, Check.PORT + ";" + Check.SHIP + ";town a people 50;town b people 50");
        way(x, 1, -2);
        CHECK.due("roads", x.size(5), 0);
    }

    public static void main(String[] args) {
        shares();
        ways();
        firstOfLikeWays();
        inland();
        roadsOfThePortBefore();
        CHECK.end();
    }
}
