/** Promises 15 to 21: which ships have come, how likely, what they weigh. */
public final class ShipsTest {
    private static final Check CHECK = new Check("ShipsTest");

    private static DayPort port() {
        return Check.of(Check.PORT + ";ship a day 2 chance 20 late 5 says 2;ship b day 6 chance 100 late 4 says 0;"
            + "ship c day 60 chance 0 late 30 says 0;crate k plain on a stack 1 is 1 weighs 7;"
            + "crate l plain on a stack 2 is 2 weighs 7;crate m plain on c stack 2 is 3 weighs 30;" + Check.TOWN);
    }

    private static void fraction(String call, long above, long below, long wantAbove, long wantBelow) {
        CHECK.due(call + " above", above, wantAbove);
        CHECK.due(call + " below", below, wantBelow);
    }

    private static void come(DayPort x, int ship, int day, long above, long below) {
        fraction("come(" + ship + ", " + day + ")", x.come(ship, day, false), x.come(ship, day, true), above, below);
        CHECK.due("trouble", x.trouble(), 0);
    }

    private static void allCome(DayPort x, int day, long above, long below) {
        fraction("allCome(" + day + ")", x.allCome(day, false), x.allCome(day, true), above, below);
        CHECK.due("trouble", x.trouble(), 0);
    }

    private static void likely() {
        DayPort x = port();
        come(x, 0, 1, 0, 1);
        come(x, 0, 2, 4, 5);
        come(x, 0, 6, 4, 5);
        come(x, 0, 7, 1, 1);
        come(x, 1, 6, 0, 1);
        come(x, 1, 9, 0, 1);
        come(x, 1, 10, 1, 1);
        come(x, 2, 59, 0, 1);
        come(x, 2, 60, 1, 1);
        come(x, 2, 99, 1, 1);
        CHECK.refused(x, "come(3, 0)", x.come(3, 0, false), -1, 1);
        CHECK.refused(x, "come(-1, 0)", x.come(-1, 0, false), -1, 1);
        CHECK.refused(x, "come(3, 100)", x.come(3, 100, false), -1, 1);
        CHECK.refused(x, "come(0, 100)", x.come(0, 100, true), -1, 2);
        CHECK.refused(x, "come(0, -1)", x.come(0, -1, true), -1, 2);
        allCome(x, 0, 0, 1);
        allCome(x, 59, 0, 1);
        allCome(x, 60, 1, 1);
        CHECK.refused(x, "allCome(100)", x.allCome(100, true), -1, 2);
        CHECK.refused(x, "allCome(-1)", x.allCome(-1, true), -1, 2);
        DayPort y = Check.of(Check.PORT + ";ship a day 2 chance 1 late 5 says 2;ship b day 2 chance 3 late 4 says 0;"
            + "ship c day 1 chance 7 late 30 says 0;" + Check.TOWN);
        allCome(y, 2, 99L * 97 * 93, 1000000);
        allCome(y, 6, 99L * 93, 10000);
        allCome(y, 7, 93, 100);
        allCome(y, 31, 1, 1);
    }

    private static void surely() {
        DayPort x = port();
        CHECK.due("sure(6)", x.sure(6), 0);
        CHECK.due("sure(7)", x.sure(7), 2);
        CHECK.due("sure(59)", x.sure(59), 2);
        x.lift(0, 1, 3);
        x.dawn();
        CHECK.due("sure(60), as told", x.sure(60), 3);
        CHECK.due("trouble", x.trouble(), 0);
        CHECK.refused(x, "sure(100)", x.sure(100), -1, 2);
        CHECK.refused(x, "sure(-1)", x.sure(-1), -1, 2);
    }

    private static void mean() {
        DayPort x = port();
        fraction("mean(0)", x.mean(0, false), x.mean(0, true), 3, 1);
        fraction("mean(1)", x.mean(1, false), x.mean(1, true), 10, 1);
        fraction("mean(2)", x.mean(2, false), x.mean(2, true), 60, 1);
        CHECK.refused(x, "mean(3)", x.mean(3, false), -1, 1);
        CHECK.refused(x, "mean(-1)", x.mean(-1, false), -1, 1);
        DayPort y = Check.of(Check.PORT + ";ship a day 0 chance 0 late 5 says 0;ship b day 3 chance 25 late 7 says 0;"
            + Check.TOWN);
        fraction("mean(0)", y.mean(0, false), y.mean(0, true), 0, 1);
        fraction("mean(1)", y.mean(1, false), y.mean(1, true), 19, 4);
        CHECK.due("trouble", y.trouble(), 0);
    }

    private static void judge() {
        DayPort x = port();
        CHECK.due("judge", x.judge(), 2);
        x.lift(0, 1, 3);
        CHECK.due("judge, as told", x.judge(), 2);
        DayPort y = Check.of(Check.PORT + ";ship a day 2 chance 20 late 5 says 0;" + Check.TOWN);
        CHECK.due("judge", y.judge(), -2);
        CHECK.due("trouble", y.trouble(), 0);
    }

    private static void weights() {
        DayPort x = port();
        CHECK.due("weight(0)", x.weight(0), 14);
        CHECK.due("weight(1)", x.weight(1), 0);
        CHECK.due("weight(2)", x.weight(2), 30);
        CHECK.due("heaviest(0)", x.heaviest(0), 1);
        CHECK.due("heaviest(1)", x.heaviest(1), 0);
        CHECK.due("heaviest(2)", x.heaviest(2), 2);
        x.lift(0, 1, 3);
        CHECK.due("weight(0)", x.weight(0), 7);
        CHECK.due("heaviest(0)", x.heaviest(0), 2);
        x.lift(0, 2, 0);
        CHECK.due("heaviest(0)", x.heaviest(0), 0);
        CHECK.due("trouble", x.trouble(), 0);
        CHECK.refused(x, "weight(3)", x.weight(3), -1, 1);
        CHECK.refused(x, "weight(-1)", x.weight(-1), -1, 1);
        CHECK.refused(x, "heaviest(3)", x.heaviest(3), -1, 1);
        CHECK.refused(x, "heaviest(-1)", x.heaviest(-1), -1, 1);
    }

    public static void main(String[] args) {
        likely();
        surely();
        mean();
        judge();
        weights();
        CHECK.end();
    }
}
