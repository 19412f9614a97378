/** "Terms" I, as far as NAMES, what is told again, room and what lacks go: FAULTS 2, 3, 5, 6, and which comes first. */
public final class EdgesFaultsTest {
    private static final Check CHECK = new Check("EdgesFaultsTest");
    private static final String P = "port straw 1 wage 1 gang 0 council 0";
    private static final String S = ship("s");
    private static final String C = crate("c", "s", 0, 1);
    private static final String T = town("t");
    private static final String ALL = P + S + C + T;

    private static String ship(String name) {
        return ";ship " + name + " day 1 chance 1 late 1 says 1";
    }

    private static String crate(String name, String ship, int stack, int number) {
        return ";crate " + name + " plain on " + ship + " stack " + stack + " is " + number + " weighs 1";
    }

    private static String town(String name) {
        return ";town " + name + " people 1";
    }

    private static String road(String one, String other) {
        return ";road " + one + " " + other + " days 1";
    }

    // ---- "NAMES are WORDS but port, ship, crate, town, road, opened"

    private static void wordsThatMayBeNames() {
        String[] free = {"straw", "wage", "gang", "council", "day", "chance", "late", "says", "plain", "wet", "frail",
            "lashed", "on", "stack", "is", "weighs", "people", "days", "night", "ports", "por", "ort", "open", "a", "z"};
        for (String name : free) {
            CHECK.sound(P + ship(name) + crate("c", name, 0, 1) + T, 1);
            CHECK.sound(P + S + crate(name, "s", 0, 1) + ";opened " + name + " night" + T, 1);
            CHECK.sound(P + S + T + town(name) + road("t", name), 0);
            CHECK.sound(P + S + T + town(name) + road(name, "t"), 0);
        }
    }

    private static void wordsThatMayNot() {
        for (String name : new String[] {"port", "ship", "crate", "town", "road", "opened"}) {
            CHECK.faultAtLast(P + ";ship " + name, 1);
            CHECK.faultAtLast(P + S + ";crate " + name, 1);
            CHECK.faultAtLast(P + S + ";crate d wet on " + name, 1);
            CHECK.faultAtLast(P + S + ";town " + name, 1);
            CHECK.faultAtLast(ALL + ";road " + name, 1);
            CHECK.faultAtLast(ALL + ";road t " + name, 1);
            CHECK.faultAtLast(ALL + ";opened " + name, 1);
        }
    }

    // ---- "2 a NAME that isn't told, or is of another sort than must stand there; at it", "ahead of its use"

    private static void namesThatDoNotStandThere() {
        for (String name : new String[] {"x", "c", "t", "d"}) {
            CHECK.faultAtLast(ALL + ";crate d wet on " + name, 2);
            CHECK.fault(ALL + ";crate d wet on " + name + " stack 0", 2, ALL.length() + 16);
        }
        for (String name : new String[] {"x", "s", "c"}) {
            CHECK.faultAtLast(ALL + ";road " + name, 2);
            CHECK.faultAtLast(ALL + ";road t " + name, 2);
        }
        for (String name : new String[] {"x", "s", "t"}) {
            CHECK.faultAtLast(ALL + ";opened " + name, 2);
        }
        CHECK.fault(P + T + C + S, 2, (P + T).length() + 18);
        CHECK.fault(P + S + T + road("t", "u") + town("u"), 2, (P + S + T).length() + 8);
        CHECK.fault(P + S + T + ";opened c day" + C, 2, (P + S + T).length() + 8);
        // What an earlier text told is not told.
        DayPort x = Check.of(ALL);
        CHECK.due("port", Check.tell(x, P + ship("b") + crate("c", "s", 0, 1) + T), -1);
        CHECK.due("fault", x.fault(), 2);
        CHECK.due("names of an earlier text are free", Check.tell(x, P + ship("t") + crate("s", "t", 0, 1) + town("c")), 1);
    }

    // ---- "3 a NAME told again"

    private static void namesToldAgain() {
        for (String name : new String[] {"s", "c", "t"}) {
            CHECK.faultAtLast(ALL + ";ship " + name, 3);
            CHECK.faultAtLast(ALL + ";crate " + name, 3);
            CHECK.faultAtLast(ALL + ";town " + name, 3);
            CHECK.fault(ALL + town(name), 3, ALL.length() + 6);
        }
    }

    // ---- "a NUMBER of another crate; at it"

    private static void numbersToldAgain() {
        String two = P + ship("a") + ship("b") + crate("k", "a", 0, 1) + crate("l", "b", 2, 99) + T;
        CHECK.sound(two, 2);
        for (int number : new int[] {1, 99}) {
            CHECK.faultAtLast(two + ";crate m wet on a stack 1 is " + number, 3);
            CHECK.faultAtLast(two + ";crate m wet on b stack 1 is 0" + number, 3);
            CHECK.fault(two + ";crate m wet on b stack 1 is " + number + " weighs 31", 3, two.length() + 29);
        }
        CHECK.sound(two + crate("m", "b", 2, 2) + crate("n", "b", 2, 98), 4);
    }

    // ---- "a second TOWN of a road that is the first, or to which there is a road already; at it"

    private static void roadsToldAgain() {
        String towns = P + S + T + town("u") + town("v");
        CHECK.faultAtLast(towns + ";road t t", 3);
        CHECK.faultAtLast(towns + ";road v v", 3);
        CHECK.fault(towns + ";road u u days 1", 3, towns.length() + 8);
        CHECK.faultAtLast(towns + road("t", "u") + ";road t u", 3);
        CHECK.faultAtLast(towns + road("t", "u") + ";road u t", 3);
        CHECK.faultAtLast(towns + road("v", "u") + road("t", "u") + ";road u v", 3);
        CHECK.fault(towns + road("t", "u") + ";road u t days 5", 3, (towns + road("t", "u")).length() + 8);
        CHECK.sound(towns + road("t", "u") + road("u", "v") + road("v", "t"), 0);
    }

    // ---- "a CRATE opened already; at it"

    private static void openedAgain() {
        String crates = ALL + crate("d", "s", 0, 2);
        for (String answer : new String[] {"day", "night"}) {
            CHECK.faultAtLast(crates + ";opened c day;opened c", 3);
            CHECK.faultAtLast(crates + ";opened c night;opened d day;opened c", 3);
            CHECK.fault(crates + ";opened c night;opened c " + answer, 3, crates.length() + 23);
            CHECK.sound(crates + ";opened c " + answer + ";opened d " + answer, 2);
        }
    }

    // ---- "a second port: at that WORD", "ahead of all others"

    private static void portAgain() {
        CHECK.faultAtLast(P + ";port", 3);
        CHECK.fault(P + ";" + P + ";port", 3, P.length() + 1);
        CHECK.fault(ALL + ";port !", 3, ALL.length() + 1);
        CHECK.fault(ALL + ";" + P, 3, ALL.length() + 1);
    }

    // ---- "5 MANY: a LINE more of its sort than there is room for, at its first WORD"

    private static void tooManyLines() {
        String ships = P + ship("a") + ship("b") + ship("c");
        CHECK.sound(ships + T, 0);
        many(ships, "ship", new String[] {"", " d", " a", " !", " ship", " 7"});
        String towns = P + S + town("a") + town("b") + town("c") + town("d") + town("e");
        CHECK.sound(towns, 0);
        many(towns, "town", new String[] {"", " f", " a", " !", " town", " 7"});
        String roads = towns + road("a", "b") + road("a", "c") + road("a", "d") + road("a", "e") + road("b", "c")
            + road("b", "d") + road("b", "e") + road("c", "d");
        CHECK.due("eight roads", CHECK.sound(roads, 0).size(5), 8);
        many(roads, "road", new String[] {"", " c e", " c x", " a a", " a b", " !", " s"});
    }

    private static void many(String full, String word, String[] behinds) {
        for (String behind : behinds) {
            CHECK.fault(full + ";" + word + behind, 5, full.length() + 1);
            CHECK.fault(full + " ;  " + word + behind, 5, full.length() + 4);
        }
    }

    // ---- "a sixth crate on a SHIP: at that NAME"

    private static void sixthCrate() {
        String text = P + ship("a") + ship("b") + T;
        for (int i = 1; i <= 5; i++) {
            text += crate("a" + (char) ('a' + i), "a", i % 3, i);
            CHECK.sound(text, i);
        }
        CHECK.faultAtLast(text + ";crate z wet on a", 5);
        CHECK.fault(text + ";crate z wet on a stack 9", 5, text.length() + 16);
        CHECK.fault(text + ";crate z wet on a !", 5, text.length() + 16);
        CHECK.faultAtLast(text + ";crate z dry", 1);
        CHECK.faultAtLast(text + ";crate ab", 3);
        for (int i = 6; i <= 10; i++) {
            text += crate("b" + (char) ('a' + i), "b", 0, i);
            CHECK.sound(text, i);
        }
        CHECK.faultAtLast(text + ";crate z wet on b", 5);
        CHECK.faultAtLast(text + ";crate z wet on x", 2);
        text += ship("c");
        for (int i = 11; i <= 15; i++) {
            text += ";crate c" + (char) ('a' + i) + " wet on c stack0is" + i + "weighs1";
            CHECK.sound(text, i);
        }
        CHECK.faultAtLast(text + ";crate z wet on c", 5);
    }

    /** All NAMES that there is room for, and one more of each sort. */
    private static void allRoomsFull() {
        String text = Check.fullShips(P, 1);
        for (String name : new String[] {"ta", "tb", "tc", "td", "te"}) {
            text += town(name);
        }
        CHECK.sound(text, 15);
        CHECK.fault(text + ";ship z", 5, text.length() + 1);
        CHECK.fault(text + ";town z", 5, text.length() + 1);
        CHECK.faultAtLast(text + ";crate z wet on a", 5);
        CHECK.faultAtLast(text + ";crate z wet on c", 5);
        CHECK.faultAtLast(text + ";crate z wet on z", 2);
        CHECK.faultAtLast(text + ";crate z wet on te", 2);
        CHECK.faultAtLast(text + ";crate te", 3);
    }

    // ---- "6 LACKS: any LINE ahead of the port; at its WORD; at the end: no ship, no town"

    private static void linesAheadOfPort() {
        for (String word : new String[] {"ship", "crate", "town", "road", "opened"}) {
            CHECK.fault(word, 6, 0);
            CHECK.fault("   " + word, 6, 3);
            CHECK.fault(word + " !", 6, 0);
            CHECK.fault(word + " s;" + P, 6, 0);
        }
        CHECK.fault(S.substring(1) + ";" + P + T, 6, 0);
    }

    private static void lackingAtTheEnd() {
        CHECK.fault(P, 6, P.length());
        CHECK.fault(P + " ", 6, P.length() + 1);
        CHECK.fault(P + S, 6, (P + S).length());
        CHECK.fault(P + S + C + "  ", 6, (P + S + C).length() + 2);
        CHECK.fault(P + T, 6, (P + T).length());
        CHECK.sound(P + S + T, 0);
        CHECK.sound(P + T + S, 0);
    }

    // ---- "the first that is met from the left, of one place the least number"

    private static void leastNumberOfOnePlace() {
        // 1 ahead of 6: a WORD that begins no LINE, where the port lacks; the end behind a semicolon.
        CHECK.fault("x", 1, 0);
        CHECK.fault("", 1, 0);
        CHECK.fault(P + ";", 1, P.length() + 1);
        // 1 ahead of 4, where a WHOLE is too long and too large; 1 ahead of 2 and 3, where a NAME may not be one.
        CHECK.faultAtLast("port straw 1 wage 1000", 1);
        CHECK.faultAtLast(ALL + ";road port", 1);
        CHECK.faultAtLast(ALL + ";town ship", 1);
    }

    private static void firstFromTheLeft() {
        CHECK.fault("port straw 1 wage 0 !", 4, 18);
        CHECK.fault("port straw 1 ! wage 0", 1, 13);
        CHECK.fault(ALL + ";town t people 0", 3, ALL.length() + 6);
        CHECK.fault(ALL + ";town u people 0;town t", 4, ALL.length() + 15);
        CHECK.fault(ALL + ";crate d wet on x stack 3", 2, ALL.length() + 16);
        CHECK.fault(ALL + ";crate d wet on s stack 3 is 1", 4, ALL.length() + 24);
        CHECK.fault(ALL + ";crate c wet on x", 3, ALL.length() + 7);
        CHECK.fault("town t !", 6, 0);
        CHECK.fault(P + ";ship s day 61", 4, P.length() + 12);
    }

    public static void main(String[] args) {
        wordsThatMayBeNames();
        wordsThatMayNot();
        namesThatDoNotStandThere();
        namesToldAgain();
        numbersToldAgain();
        roadsToldAgain();
        openedAgain();
        portAgain();
        tooManyLines();
        sixthCrate();
        allRoomsFull();
        linesAheadOfPort();
        lackingAtTheEnd();
        leastNumberOfOnePlace();
        firstFromTheLeft();
        CHECK.end();
    }
}
