/** Promises 1 to 5: a new object, THE TAPE, PORT texts and their FAULTS. */
public final class PortTextTest {
    private static final Check CHECK = new Check("PortTextTest");
    private static final String P = "port straw 1 wage 1 gang 0 council 0";
    private static final String S = ";ship s day 1 chance 1 late 1 says 1";
    private static final String T = ";town t people 1";

    private static String crate(String name, int number) {
        return ";crate " + name + " plain on s stack 0 is " + number + " weighs 1";
    }

    private static void newObject() {
        DayPort x = new DayPort();
        for (int what = 0; what <= 12; what++) {
            CHECK.due("new: size(" + what + ")", x.size(what), 0);
        }
        CHECK.due("new: fault", x.fault(), 0);
        CHECK.due("new: where", x.where(), DayPort.NONE);
        CHECK.due("new: trouble", x.trouble(), 0);
        CHECK.refused(x, "new: next", x.next(), -1, 1);
        CHECK.refused(x, "new: image", x.image(), -1, 1);
    }

    private static void tape() {
        DayPort x = new DayPort();
        for (int i = 1; i <= 50; i++) {
            CHECK.due("feed " + i, x.feed(0x20202020, 0x20202020, 0x20202020, 0x20202020, 0x20202020), 20 * i);
        }
        CHECK.due("feed 51", x.feed(1, 2, 3, 4, 5), DayPort.NONE);
        CHECK.due("feed is never refused by a number", x.trouble(), 0);
        CHECK.due("size(12)", x.size(12), 1000);
        CHECK.refused(x, "port(1001)", x.port(1001), -1, 2);
        CHECK.refused(x, "port(-1)", x.port(-1), -1, 2);
        CHECK.due("the tape stays", x.size(12), 1000);
        CHECK.due("no fault of a port refused by 2", x.fault(), 0);
        CHECK.refused(x, "port(1000)", x.port(1000), -1, 4);
        CHECK.due("blanks alone: fault", x.fault(), 1);
        CHECK.due("blanks alone: where", x.where(), 1000);
        CHECK.due("the tape is empty", x.size(12), 0);
        CHECK.refused(x, "port(1)", x.port(1), -1, 2);
        CHECK.due("the fault stays", x.fault(), 1);
        CHECK.due("but has no place now", x.where(), DayPort.NONE);
        CHECK.refused(x, "port(0)", x.port(0), -1, 4);
        CHECK.due("nothing: fault", x.fault(), 1);
        CHECK.due("nothing: where", x.where(), 0);
        x.next();
        CHECK.due("where behind another refusal", x.where(), DayPort.NONE);
    }

    private static void firstBytesAlone() {
        DayPort x = new DayPort();
        String text = P + S + T;
        Check.feed(x, text + ";rubbish !!");
        CHECK.due("the first bytes", x.port(text.length()), 0);
        CHECK.due("the rest is gone", x.size(12), 0);
        Check.feed(x, P + "x");
        CHECK.refused(x, "port with a fault", x.port(P.length() + 1), -1, 4);
        CHECK.due("the PORT stays", x.size(2), 1);
        CHECK.due("its towns too", x.size(4), 1);
    }

    private static void negativeBytes() {
        DayPort x = new DayPort();
        x.feed(-1, 0, 0, 0, 0);
        CHECK.refused(x, "byte 255", x.port(20), -1, 4);
        CHECK.due("byte 255: fault", x.fault(), 1);
        CHECK.due("byte 255: where", x.where(), 0);
    }

    private static void form() {
        CHECK.fault("", 1, 0);
        CHECK.fault("   ", 1, 3);
        CHECK.fault(";", 1, 0);
        CHECK.fault("harbour", 1, 0);
        CHECK.fault("12", 1, 0);
        CHECK.fault("Port", 1, 0);
        CHECK.fault("portportport", 1, 0);
        CHECK.fault("port straw", 1, 10);
        CHECK.fault("port straw 1 ", 1, 13);
        CHECK.faultAtLast("port straw 1234", 1);
        CHECK.faultAtLast("port straw straw", 1);
        CHECK.faultAtLast("port wage", 1);
        CHECK.fault("port straw 1 wage 1 gang 0 council -1", 1, 35);
        CHECK.fault(P + ";", 1, P.length() + 1);
        CHECK.fault(P + " ship", 1, P.length() + 1);
        CHECK.fault(P + ";;", 1, P.length() + 1);
        CHECK.faultAtLast(P + ";ship abcdefghi", 1);
        CHECK.faultAtLast(P + ";ship 1", 1);
        for (String word : new String[] {"port", "ship", "crate", "town", "road", "opened"}) {
            CHECK.faultAtLast(P + ";ship " + word, 1);
            CHECK.faultAtLast(P + S + ";crate c wet on " + word, 1);
        }
        CHECK.faultAtLast(P + S + ";crate c heavy", 1);
        CHECK.faultAtLast(P + S + ";crate c wet at", 1);
        CHECK.faultAtLast(P + S + crate("c", 1) + ";opened c noon", 1);
        for (String word : new String[] {"qort", "pprt", "poqt", "pors", "xhip", "xrate", "xown", "xoad", "xpened"}) {
            CHECK.faultAtLast(P + ";" + word, 1);
            CHECK.fault(word, 1, 0);
        }
        CHECK.faultAtLast("port xtraw", 1);
        CHECK.faultAtLast(P + ";ship s xay", 1);
        CHECK.faultAtLast(P + S + ";crate c xet", 1);
        CHECK.faultAtLast(P + S + ";crate c wet xn", 1);
        CHECK.fault(P + S + crate("c", 1) + ";opened c", 1, (P + S + crate("c", 1) + ";opened c").length());
        CHECK.fault(P + S + T + ".", 1, (P + S + T).length());
        CHECK.fault(P + S + T + "\t", 1, (P + S + T).length());
        // Of what is met from the left the first alone counts.
        CHECK.fault(P + ";ship s day 61 !", 4, P.length() + 12);
    }

    private static void names() {
        CHECK.faultAtLast(P + S + ";crate c wet on t", 2);
        CHECK.faultAtLast(P + S + T + ";crate c wet on t", 2);
        CHECK.faultAtLast(P + S + ";crate c wet on c", 2);
        CHECK.faultAtLast(P + S + T + ";road s", 2);
        CHECK.faultAtLast(P + S + T + ";road t s", 2);
        CHECK.faultAtLast(P + S + T + ";road t u", 2);
        CHECK.faultAtLast(P + S + ";opened s", 2);
        CHECK.faultAtLast(P + S + ";opened c", 2);
        CHECK.faultAtLast(P + S + ";ship s", 3);
        CHECK.faultAtLast(P + S + ";town s", 3);
        CHECK.faultAtLast(P + S + ";crate s", 3);
        CHECK.faultAtLast(P + S + T + ";crate t", 3);
        CHECK.faultAtLast(P + S + crate("c", 1) + ";town c", 3);
        CHECK.faultAtLast(P + S + crate("c", 9) + ";crate d plain on s stack 1 is 9", 3);
        CHECK.faultAtLast(P + S + T + ";road t t", 3);
        CHECK.faultAtLast(P + S + T + ";town u people 1;road t u days 1;road t u", 3);
        CHECK.faultAtLast(P + S + T + ";town u people 1;road t u days 1;road u t", 3);
        CHECK.faultAtLast(P + S + crate("c", 1) + ";opened c day;opened c", 3);
        CHECK.faultAtLast(P + ";port", 3);
        CHECK.faultAtLast(P + S + T + ";port", 3);
        CHECK.sound("port straw 0 wage 1 gang 0 council 0;ship straw day 0 chance 0 late 1 says 0;town day people 1", 0);
        CHECK.sound(P + ";ship abcdefgh day 1 chance 1 late 1 says 1;town abcdefg people 1", 0);
        String alike = P + S;
        for (String name : new String[] {"aaaaaaaa", "baaaaaaa", "aaaaaaab", "aaaaaaa", "aaaaaaaz"}) {
            CHECK.faultAtLast(alike + ";road " + name, 2);
            alike += ";town " + name + " people 1";
            CHECK.faultAtLast(alike + ";ship " + name, 3);
        }
        CHECK.sound(alike, 0);
        CHECK.sound(P + S + ";town a people 1;town aa people 1;town z people 1;town za people 1;town az people 1", 0);
    }

    private static void many() {
        String ships = P;
        for (String name : new String[] {"a", "b", "c"}) {
            ships += ";ship " + name + " day 1 chance 1 late 1 says 1";
        }
        CHECK.sound(ships + T, 0);
        CHECK.faultAtLast(ships + ";ship", 5);
        CHECK.fault(ships + ";ship a", 5, ships.length() + 1);
        String towns = P + S;
        for (String name : new String[] {"a", "b", "c", "d", "e"}) {
            towns += ";town " + name + " people 1";
        }
        CHECK.sound(towns, 0);
        CHECK.faultAtLast(towns + ";town", 5);
        String roads = towns;
        for (String pair : new String[] {"a b", "a c", "a d", "a e", "b c", "b d", "b e", "c d"}) {
            roads += ";road " + pair + " days 1";
        }
        CHECK.sound(roads, 0);
        CHECK.faultAtLast(roads + ";road", 5);
        String crates = P + S;
        for (int i = 1; i <= 5; i++) {
            crates += crate("c" + "abcdef".charAt(i), i);
        }
        CHECK.sound(crates + T, 5);
        CHECK.faultAtLast(crates + ";crate z wet on s", 5);
        CHECK.faultAtLast(crates + ";crate z wet on t", 2);
    }

    private static void lacks() {
        CHECK.fault("ship s", 6, 0);
        CHECK.fault("  town", 6, 2);
        CHECK.fault("crate", 6, 0);
        CHECK.fault("road", 6, 0);
        CHECK.fault("opened", 6, 0);
        CHECK.fault(P, 6, P.length());
        CHECK.fault(P + S + "  ", 6, (P + S).length() + 2);
        CHECK.fault(P + T, 6, (P + T).length());
        CHECK.sound(P + T + S, 0);
        CHECK.sound(Check.fullShips(P, 1) + T, 15);
        CHECK.faultAtLast(Check.fullShips(P, 1) + ";crate z wet on b", 5);
    }

    private static void blanks() {
        CHECK.sound("  port straw1wage1gang0council0 ; ship s day1chance1late1says1;crate c wet on s stack0is1weighs1;"
            + "opened c night;town t people1 ", 1);
    }

    private static void portStartsAnew() {
        DayPort x = Check.with("crate c frail on s stack 0 is 9 weighs 3", "crate d wet on s stack 0 is 4 weighs 3",
            "opened c day");
        x.lift(0, 0, 1);
        x.open(1, true);
        x.dawn();
        x.image();
        CHECK.due("again", Check.tell(x, Check.PORT + ";" + Check.SHIP
            + ";crate e lashed on s stack 2 is 5 weighs 2;opened e night;" + Check.TOWN), 1);
        int[] sizes = {33, 20, 1, 1, 1, 0, 1, 0, 0, 0, 0, 0, 0};
        for (int what = 0; what < sizes.length; what++) {
            CHECK.due("again: size(" + what + ")", x.size(what), sizes[what]);
        }
        CHECK.due("again: lies", x.lies(0, 2, 0), 0);
        CHECK.due("again: high", x.high(0, 0), 0);
        CHECK.refused(x, "again: undo", x.undo(), 6);
        CHECK.refused(x, "again: back", x.back(0), 1);
        CHECK.refused(x, "again: had", x.had(0), -1, 1);
    }

    public static void main(String[] args) {
        newObject();
        tape();
        firstBytesAlone();
        negativeBytes();
        form();
        names();
        many();
        lacks();
        blanks();
        portStartsAnew();
        CHECK.end();
    }
}
