/** Promises 15 to 21, sentence by sentence: the edges of what ships say, when they COME, what they weigh. */
public final class EdgesShipsTest {
    private static final Check CHECK = new Check("EdgesShipsTest");
    private static final int[] NO_SHIPS = {-1, 3, 4, Integer.MIN_VALUE, Integer.MAX_VALUE};
    private static final int[] NO_DAYS = {-1, 100, 101, Integer.MIN_VALUE, Integer.MAX_VALUE};

    private static DayPort told() {
        return Check.of(Check.PORT + ";ship a day 2 chance 20 late 5 says 2;ship b day 60 chance 100 late 30 says 1;"
            + "ship c day 0 chance 0 late 1 says 0;crate k plain on a stack 1 is 1 weighs 7;"
            + "crate l frail on a stack 2 is 2 weighs 7;crate m plain on b stack 2 is 3 weighs 30;" + Check.TOWN);
    }

    private static DayPort ships(String... tails) {
        StringBuilder text = new StringBuilder(Check.PORT);
        for (int i = 0; i < tails.length; i++) {
            text.append(";ship ").append((char) ('a' + i)).append(' ').append(tails[i]);
        }
        return Check.of(text.append(';').append(Check.TOWN).toString());
    }

    // ---- Promise 15: "The first ship that says another number than it has crates as told; -2."

    private static DayPort saying(int says, int crates) {
        StringBuilder text = new StringBuilder(Check.PORT + ";ship s day 1 chance 1 late 1 says " + says);
        for (int i = 1; i <= crates; i++) {
            text.append(";crate c").append((char) ('a' + i)).append(" wet on s stack 0 is ").append(i).append(" weighs 1");
        }
        return Check.of(text.append(';').append(Check.TOWN).toString());
    }

    private static void judge() {
        for (int crates = 0; crates <= 5; crates++) {
            for (int says = 0; says <= 20; says++) {
                CHECK.due(says + " said, " + crates + " told", saying(says, crates).judge(), says == crates ? -2 : 0);
            }
        }
        new Edges(CHECK, EdgesShipsTest::told).answers("judge, all say so", DayPort::judge, -2);
        new Edges(CHECK, () -> ships("day 1 chance 1 late 1 says 0", "day 1 chance 1 late 1 says 1",
            "day 1 chance 1 late 1 says 2")).answers("the first of two", DayPort::judge, 1);
        new Edges(CHECK, () -> ships("day 1 chance 1 late 1 says 0", "day 1 chance 1 late 1 says 0",
            "day 1 chance 1 late 1 says 20")).answers("the last", DayPort::judge, 2);
        DayPort x = told();
        x.lift(0, 1, 3);
        x.dawn();
        x.lift(0, 2, 0);
        x.lift(0, 0, 3);
        CHECK.due("as told, though one is HAD and one is gone", x.judge(), -2);
    }

    // ---- Promise 16: "How likely a ship has COME by a day (0 .. 99)", "in lowest terms (0 by 1)", "-1: 1; 2"

    private static void come(Edges edges, int ship, int day, long upper, long lower) {
        edges.answers("come(" + ship + ", " + day + ") upper", x -> x.come(ship, day, false), upper);
        edges.answers("come(" + ship + ", " + day + ") lower", x -> x.come(ship, day, true), lower);
    }

    private static void come() {
        Edges edges = new Edges(CHECK, EdgesShipsTest::told);
        int[][] due = {{0, 0, 0, 1}, {0, 1, 0, 1}, {0, 2, 4, 5}, {0, 6, 4, 5}, {0, 7, 1, 1}, {0, 99, 1, 1}, {1, 0, 0, 1},
            {1, 59, 0, 1}, {1, 60, 0, 1}, {1, 89, 0, 1}, {1, 90, 1, 1}, {1, 99, 1, 1}, {2, 0, 1, 1}, {2, 1, 1, 1}};
        for (int[] row : due) {
            come(edges, row[0], row[1], row[2], row[3]);
        }
        for (boolean lower : new boolean[] {false, true}) {
            for (int ship : NO_SHIPS) {
                edges.refuses("come(" + ship + ", 0)", x -> x.come(ship, 0, lower), -1, 1);
                edges.refuses("come(" + ship + ", 100)", x -> x.come(ship, 100, lower), -1, 1);
            }
            for (int day : NO_DAYS) {
                edges.refuses("come(0, " + day + ")", x -> x.come(0, day, lower), -1, 2);
                edges.refuses("come(2, " + day + ")", x -> x.come(2, day, lower), -1, 2);
            }
        }
    }

    private static void lowestTerms() {
        for (int chance = 0; chance <= 100; chance++) {
            DayPort x = ships("day 7 chance " + chance + " late 1 says 0");
            long upper = x.come(0, 7, false);
            long lower = x.come(0, 7, true);
            CHECK.due("worth of chance " + chance, upper * 100, lower * (100 - chance));
            CHECK.due("terms of chance " + chance, divisor(upper, lower), 1);
            CHECK.due("come a day later", x.come(0, 8, false) * 10 + x.come(0, 8, true), 11);
            CHECK.due("come a day ahead", x.come(0, 6, false) * 10 + x.come(0, 6, true), 1);
        }
    }

    private static long divisor(long a, long b) {
        return b == 0 ? a : divisor(b, a % b);
    }

    // ---- Promise 17: "How likely all have. -1: 1 (no PORT); 2."

    private static void allCome(Edges edges, int day, long upper, long lower) {
        edges.answers("allCome(" + day + ") upper", x -> x.allCome(day, false), upper);
        edges.answers("allCome(" + day + ") lower", x -> x.allCome(day, true), lower);
    }

    private static void allCome() {
        Edges edges = new Edges(CHECK, EdgesShipsTest::told);
        for (int[] row : new int[][] {{0, 0, 1}, {89, 0, 1}, {90, 1, 1}, {99, 1, 1}}) {
            allCome(edges, row[0], row[1], row[2]);
        }
        for (int day : NO_DAYS) {
            edges.refuses("allCome(" + day + ") upper", x -> x.allCome(day, false), -1, 2);
            edges.refuses("allCome(" + day + ") lower", x -> x.allCome(day, true), -1, 2);
        }
        Edges three = new Edges(CHECK, () -> ships("day 2 chance 1 late 5 says 2", "day 2 chance 3 late 4 says 0",
            "day 1 chance 7 late 30 says 0"));
        allCome(three, 1, 0, 1);
        allCome(three, 2, 99L * 97 * 93, 1000000);
        allCome(three, 5, 99L * 97 * 93, 1000000);
        allCome(three, 6, 99L * 93, 10000);
        allCome(three, 7, 93, 100);
        allCome(three, 30, 93, 100);
        allCome(three, 31, 1, 1);
        Edges like = new Edges(CHECK, () -> ships("day 0 chance 50 late 30 says 0", "day 0 chance 50 late 30 says 0",
            "day 0 chance 50 late 30 says 0"));
        allCome(like, 0, 1, 8);
        Edges least = new Edges(CHECK, () -> ships("day 0 chance 99 late 30 says 0", "day 0 chance 99 late 30 says 0",
            "day 0 chance 99 late 30 says 0"));
        allCome(least, 29, 1, 1000000);
        Edges one = new Edges(CHECK, () -> ships("day 3 chance 40 late 2 says 0"));
        allCome(one, 3, 3, 5);
    }

    // ---- Promise 18: "How many crates have surely come by a day, as told. NONE: 1 (no PORT); 2."

    private static void sure() {
        Edges edges = new Edges(CHECK, EdgesShipsTest::told);
        for (int[] row : new int[][] {{0, 0}, {2, 0}, {6, 0}, {7, 2}, {60, 2}, {89, 2}, {90, 3}, {99, 3}}) {
            edges.answers("sure(" + row[0] + ")", x -> x.sure(row[0]), row[1]);
        }
        for (int day : NO_DAYS) {
            edges.refuses("sure(" + day + ")", x -> x.sure(day), -1, 2);
        }
        DayPort x = told();
        x.lift(0, 1, 3);
        x.dawn();
        x.lift(0, 2, 0);
        x.lift(0, 0, 3);
        CHECK.due("as told, though one is HAD and one is gone", x.sure(7), 2);
        // By chance 0 it surely comes on its day; by 100 surely late.
        String crates = ";crate c wet on s stack 0 is 1 weighs 1;";
        DayPort never = Check.of(Check.PORT + ";ship s day 5 chance 0 late 9 says 1" + crates + Check.TOWN);
        CHECK.due("chance 0", never.sure(4) * 10 + never.sure(5), 1);
        DayPort hardly = Check.of(Check.PORT + ";ship s day 5 chance 1 late 9 says 1" + crates + Check.TOWN);
        CHECK.due("chance 1", hardly.sure(13) * 10 + hardly.sure(14), 1);
        DayPort all = Check.of(Check.fullShips(Check.PORT, 1) + ";" + Check.TOWN);
        CHECK.due("all fifteen", all.sure(2), 15);
        CHECK.due("none of them", all.sure(1), 0);
    }

    // ---- Promise 19: "On which day a ship COMES on the mean, likewise. -1: 1."

    private static void mean() {
        Edges edges = new Edges(CHECK, () -> ships("day 0 chance 0 late 30 says 0", "day 60 chance 100 late 30 says 0",
            "day 60 chance 1 late 1 says 0"));
        int[][] due = {{0, 1}, {90, 1}, {6001, 100}};
        for (int i = 0; i < 3; i++) {
            int ship = i;
            edges.answers("mean(" + i + ") upper", x -> x.mean(ship, false), due[i][0]);
            edges.answers("mean(" + i + ") lower", x -> x.mean(ship, true), due[i][1]);
        }
        for (int ship : NO_SHIPS) {
            edges.refuses("mean(" + ship + ") upper", x -> x.mean(ship, false), -1, 1);
            edges.refuses("mean(" + ship + ") lower", x -> x.mean(ship, true), -1, 1);
        }
        DayPort y = ships("day 0 chance 1 late 1 says 0", "day 3 chance 25 late 7 says 0", "day 1 chance 50 late 30 says 0");
        CHECK.due("the least above 0", y.mean(0, false) * 1000 + y.mean(0, true), 1100);
        CHECK.due("19 by 4", y.mean(1, false) * 1000 + y.mean(1, true), 19004);
        CHECK.due("16 by 1", y.mean(2, false) * 1000 + y.mean(2, true), 16001);
    }

    // ---- Promises 20 and 21: "What the crates on its stacks weigh NOW together", "the first such"

    private static void weights() {
        Edges edges = new Edges(CHECK, EdgesShipsTest::told);
        int[][] due = {{14, 1}, {30, 2}, {0, 0}};
        for (int i = 0; i < 3; i++) {
            int ship = i;
            edges.answers("weight(" + i + ")", x -> x.weight(ship), due[i][0]);
            edges.answers("heaviest(" + i + ")", x -> x.heaviest(ship), due[i][1]);
        }
        for (int ship : NO_SHIPS) {
            edges.refuses("weight(" + ship + ")", x -> x.weight(ship), -1, 1);
            edges.refuses("heaviest(" + ship + ")", x -> x.heaviest(ship), -1, 1);
        }
        DayPort x = told();
        x.lift(0, 2, 0);
        CHECK.due("of like heavy ones the first", x.heaviest(0), 0);
        x.lift(0, 0, 2);
        CHECK.due("a broken one still weighs", x.weight(0), 14);
        CHECK.due("of like heavy ones the first", x.heaviest(0), 1);
        x.lift(0, 1, 3);
        CHECK.due("the quay's don't", x.weight(0), 7);
        CHECK.due("the heaviest is the last", x.heaviest(0), 2);
        x.lift(0, 2, 3);
        CHECK.due("nothing left", x.weight(0), 0);
        CHECK.due("nothing left: the first", x.heaviest(0), 0);
        DayPort full = Check.of(Check.fullShips(Check.PORT, 30) + ";" + Check.TOWN);
        CHECK.due("five of the heaviest", full.weight(2), 150);
        CHECK.due("two stacks of two", full.heaviest(2), 1);
        full.lift(2, 1, 0);
        full.lift(2, 2, 0);
        full.lift(2, 1, 0);
        full.lift(2, 2, 0);
        CHECK.due("on one stack", full.weight(2) * 10 + full.heaviest(2), 1500);
        CHECK.due("other ships are as they were", full.heaviest(1), 1);
    }

    public static void main(String[] args) {
        judge();
        come();
        lowestTerms();
        allCome();
        sure();
        mean();
        weights();
        CHECK.end();
    }
}
