/** Promises 1 to 5, sentence by sentence: a new object, THE TAPE's ends, port's numbers, fault and where. */
public final class EdgesTapeTest {
    private static final Check CHECK = new Check("EdgesTapeTest");
    private static final String P = "port straw 1 wage 1 gang 0 council 0";
    private static final String S = ";ship s day 1 chance 1 late 1 says 1";
    private static final String T = ";town t people 1";
    private static final String SOUND = P + S + T;
    private static final int BLANKS = 0x20202020;

    private static String filled(String ahead, String behind, int length) {
        return ahead + " ".repeat(length - ahead.length() - behind.length()) + behind;
    }

    private static int blanks(DayPort x) {
        return x.feed(BLANKS, BLANKS, BLANKS, BLANKS, BLANKS);
    }

    // ---- Promise 1: "No PORT."

    private static void newObject() {
        DayPort x = new DayPort();
        for (int what = 0; what <= 12; what++) {
            CHECK.due("size(" + what + ")", x.size(what), 0);
        }
        CHECK.due("size(-1)", x.size(-1), -1);
        CHECK.due("size(13)", x.size(13), -1);
        CHECK.due("trouble", x.trouble(), 0);
        CHECK.due("fault", x.fault(), 0);
        CHECK.due("where", x.where(), -1);
        CHECK.brokenIs(x, 0, -1);
        CHECK.due("still none", x.trouble(), 0);
    }

    /** Each call that a new object refuses, with its best and its worst arguments: the number is 1. */
    private static void everyCallWithoutPort() {
        Edges none = new Edges(CHECK, DayPort::new);
        for (int i : new int[] {0, 1, -1, 100, Integer.MIN_VALUE, Integer.MAX_VALUE}) {
            none.refuses("crate", x -> x.crate(i, i), -1, 1);
            none.refuses("high", x -> x.high(i, i), -1, 1);
            none.refuses("lies", x -> x.lies(i, i, i), -1, 1);
            none.refuses("quay", x -> x.quay(i), -1, 1);
            none.refuses("had", x -> x.had(i), -1, 1);
            none.refuses("hadOn", x -> x.hadOn(i), -1, 1);
            none.refuses("come upper", x -> x.come(i, i, false), -1, 1);
            none.refuses("come lower", x -> x.come(i, i, true), -1, 1);
            none.refuses("allCome upper", x -> x.allCome(i, false), -1, 1);
            none.refuses("allCome lower", x -> x.allCome(i, true), -1, 1);
            none.refuses("sure", x -> x.sure(i), -1, 1);
            none.refuses("mean upper", x -> x.mean(i, false), -1, 1);
            none.refuses("mean lower", x -> x.mean(i, true), -1, 1);
            none.refuses("weight", x -> x.weight(i), -1, 1);
            none.refuses("heaviest", x -> x.heaviest(i), -1, 1);
            none.refuses("fewest", x -> x.fewest(i), -1, 1);
            none.refuses("liftAt", x -> x.liftAt(i, i), -1, 1);
            none.refuses("wrongly", x -> x.wrongly(i), -1, 1);
            none.refuses("share", x -> x.share(i, i), -1, 1);
            none.refuses("late", x -> x.late(i), -1, 1);
            none.refuses("wayAt", x -> x.wayAt(i, i), -1, 1);
            none.refuses("inland", x -> x.inland(i, i), -1, 1);
            none.refuses("people", x -> x.people(i, i), -10000, 1);
            none.refuses("strike", x -> x.strike(i, i, false), -10000, 1);
            none.refuses("strike of the council", x -> x.strike(i, i, true), -10000, 1);
            none.refuses("rest", x -> x.rest(i), -1, 1);
            none.refuses("winter", x -> x.winter(i), -1, 1);
            none.refuses("lates", x -> x.lates(i, i, i), -1, 1);
            none.refuses("lift", x -> x.lift(i, i, i), -1, 1);
            none.refuses("lift to the quay", x -> x.lift(i, 0, 3), -1, 1);
            none.refuses("open", x -> x.open(i, true) ? 1 : 0, 0, 1);
            none.refuses("back", x -> x.back(i) ? 1 : 0, 0, 1);
        }
        none.refuses("next", DayPort::next, -1, 1);
        none.refuses("missing", DayPort::missing, -1, 1);
        none.refuses("evenings", DayPort::evenings, -1, 1);
        none.refuses("judge", DayPort::judge, -1, 1);
        none.refuses("fits", DayPort::fits, -1, 1);
        none.refuses("could", DayPort::could, -1, 1);
        none.refuses("surely", DayPort::surely, -1, 1);
        none.refuses("ask", DayPort::ask, -1, 1);
        none.refuses("askLeaves", DayPort::askLeaves, -1, 1);
        none.refuses("farthest", DayPort::farthest, -1, 1);
        none.refuses("rests", DayPort::rests, -1, 1);
        none.refuses("dawn", DayPort::dawn, -1, 1);
        none.refuses("undo", x -> x.undo() ? 1 : 0, 0, 6);
        none.refuses("image", DayPort::image, -1, 1);
    }

    // ---- Promise 2: "how many it has; NONE, and none comes, if there would be more than 1,000"

    private static void tapeFillsUp() {
        DayPort x = new DayPort();
        for (int bytes = 20; bytes <= 1000; bytes += 20) {
            CHECK.due("feed to " + bytes, blanks(x), bytes);
            CHECK.due("size(12)", x.size(12), bytes);
        }
        CHECK.due("feed beyond", blanks(x), -1);
        CHECK.due("size(12) stays", x.size(12), 1000);
        CHECK.due("feed beyond again", x.feed(-1, -1, -1, -1, -1), -1);
        CHECK.due("size(12) stays", x.size(12), 1000);
        CHECK.due("feed tells no number", x.trouble(), 0);
    }

    private static void noneComesBeyond() {
        DayPort x = new DayPort();
        Check.feed(x, filled(P, S + T, 1000));
        CHECK.due("feed beyond", x.feed(-1, -1, -1, -1, -1), -1);
        CHECK.due("all 1,000 bytes as they were", x.port(1000), 0);
        CHECK.due("tape", x.size(12), 0);
        CHECK.due("there is room again", blanks(x), 20);
    }

    private static void lastBytesOfTheTape() {
        CHECK.fault(filled(P, "!", 1000), 1, 999);
        CHECK.fault(filled(P, ";", 1000), 1, 1000);
        CHECK.fault(filled(P, "", 1000), 6, 1000);
        CHECK.fault(filled(P + ";ship s day", "61", 1000), 4, 998);
        CHECK.fault(filled(P + ";ship s", "days", 1000), 1, 996);
        CHECK.sound(filled(SOUND, "", 1000), 0);
        CHECK.sound(filled(P + S + ";town t people", "99", 1000), 0);
    }

    /** "of each number the highest first": bytes by the place at which a wrong one is found. */
    private static void orderOfBytes() {
        for (int i = 0; i < 20; i++) {
            int[] row = {BLANKS, BLANKS, BLANKS, BLANKS, BLANKS};
            for (int sign : new int[] {'!', 0, 128, 255}) {
                row[i / 4] = BLANKS & ~(255 << 24 - i % 4 * 8) | sign << 24 - i % 4 * 8;
                DayPort x = new DayPort();
                x.feed(row[0], row[1], row[2], row[3], row[4]);
                CHECK.refused(x, "port(20)", x.port(20), -1, 4);
                CHECK.due("the place of byte " + i, x.where(), i);
            }
        }
    }

    // ---- Promise 3: "The first n bytes of THE TAPE (it is empty then)", "NONE: 2 (THE TAPE stays)"

    private static void numbersOfBytes() {
        DayPort x = new DayPort();
        for (int n : new int[] {1, -1, 20, Integer.MIN_VALUE, Integer.MAX_VALUE}) {
            CHECK.refused(x, "port(" + n + ") of an empty tape", x.port(n), -1, 2);
            CHECK.due("where", x.where(), -1);
        }
        Check.feed(x, filled(SOUND, "", 100));
        for (int n : new int[] {101, 120, 1000, 1001, -1, Integer.MIN_VALUE, Integer.MAX_VALUE}) {
            CHECK.refused(x, "port(" + n + ") of 100 bytes", x.port(n), -1, 2);
            CHECK.due("the tape stays", x.size(12), 100);
            CHECK.due("no PORT", x.size(2), 0);
            CHECK.due("no FAULT", x.fault(), 0);
            CHECK.due("where", x.where(), -1);
        }
        CHECK.due("port(100)", x.port(100), 0);
        CHECK.due("trouble", x.trouble(), 0);
        CHECK.due("the tape is empty", x.size(12), 0);
        CHECK.refused(x, "port(1)", x.port(1), -1, 2);
        CHECK.due("the PORT stays", x.size(2), 1);
    }

    private static void firstBytesAlone() {
        int length = SOUND.length();
        DayPort x = new DayPort();
        Check.feed(x, SOUND + "9!");
        CHECK.due("one byte less than a FAULT", x.port(length + 1), 0);
        CHECK.due("people 19", x.people(1, 0), -19);
        CHECK.due("all of the tape is gone", x.size(12), 0);
        Check.feed(x, SOUND + "9!");
        CHECK.refused(x, "with it", x.port(length + 2), -1, 4);
        CHECK.due("where", x.where(), length + 1);
        CHECK.due("all of the tape is gone", x.size(12), 0);
        Check.feed(x, SOUND);
        CHECK.refused(x, "one byte too few", x.port(length - 1), -1, 4);
        CHECK.due("fault", x.fault(), 1);
        CHECK.due("where", x.where(), length - 1);
    }

    private static void noBytes() {
        DayPort x = new DayPort();
        CHECK.refused(x, "port(0) of an empty tape", x.port(0), -1, 4);
        CHECK.due("fault", x.fault(), 1);
        CHECK.due("where", x.where(), 0);
        Check.feed(x, SOUND);
        CHECK.refused(x, "port(0)", x.port(0), -1, 4);
        CHECK.due("where", x.where(), 0);
        CHECK.due("the tape is empty", x.size(12), 0);
    }

    // ---- "are the PORT from now on (day 0, nothing LIFTED, opened as told; nothing to undo, no IMAGES)"

    private static DayPort used() {
        DayPort x = Check.of(P + S + ";crate c frail on s stack 0 is 99 weighs 3;crate d wet on s stack 0 is 4 weighs 3;"
            + "crate e lashed on s stack 1 is 7 weighs 3;opened e night" + T + ";town u people 5;road t u days 3");
        x.lift(0, 0, 3);
        x.dawn();
        x.dawn();
        x.image();
        x.open(0, true);
        x.lift(0, 0, 1);
        x.lift(0, 1, 2);
        return x;
    }

    private static void portBeginsAnew() {
        String text = P + S + ";crate c plain on s stack 2 is 8 weighs 1;opened c day;crate d frail on s stack 2 is 4 "
            + "weighs 2" + T;
        DayPort x = used();
        CHECK.due("port", Check.tell(x, text), 2);
        CHECK.refused(x, "undo", x.undo(), 6);
        CHECK.refused(x, "back(0)", x.back(0), 1);
        CHECK.due("as a new object would have it", Edges.seen(x), Edges.seen(Check.of(text)));
        DayPort y = used();
        Check.tell(y, text);
        CHECK.due("hadOn", y.hadOn(4), -2);
        CHECK.due("late", y.late(0), 0);
        CHECK.refused(y, "no town 1", y.late(1), -1, 1);
        CHECK.due("image", y.image(), 0);
    }

    /** Of texts one behind the other each is the PORT as if it were the first: nothing of the others is left. */
    private static void portsOneBehindTheOther() {
        String many = "port straw 40 wage 99 gang 30 council 1;ship a day 1 chance 5 late 3 says 2;"
            + "ship b day 60 chance 50 late 30 says 3;crate k plain on a stack 0 is 1 weighs 1;"
            + "crate l wet on b stack 0 is 2 weighs 2;crate m frail on b stack 1 is 3 weighs 3;"
            + "crate n lashed on a stack 2 is 4 weighs 4;crate o wet on b stack 2 is 5 weighs 5;"
            + "opened k night;opened l day;opened m night;opened n day;opened o day;"
            + "town t people 99;town u people 5;town v people 9;road t u days 3;road u v days 1";
        String turned = "port straw 9 wage 1 gang 1 council 1;ship b day 2 chance 7 late 9 says 2;"
            + "crate o plain on b stack 2 is 5 weighs 2;crate n plain on b stack 2 is 4 weighs 1;"
            + "crate m plain on b stack 1 is 2 weighs 1;town v people 1;town a people 2;town t people 3;town k people 4;"
            + "road a t days 1;road t v days 9;road k v days 9";
        String few = "port straw 0 wage 5 gang 0 council 0;ship k day 0 chance 0 late 1 says 0;town a people 1";
        String full = Check.fullShips(P, 2) + T;
        String[] texts = {many, turned, few, turned, full, many, full, few, full, full, many, turned, turned, few, many};
        DayPort x = new DayPort();
        for (String text : texts) {
            CHECK.due("port of " + text, Check.tell(x, text), text.split("crate ").length - 1);
            CHECK.due("as the only text", lived(x), lived(Check.of(text)));
            leaveTraces(x);
        }
    }

    /** Something on the quay, and on stacks of all ships, when the next text comes. */
    private static void leaveTraces(DayPort x) {
        for (int ship = 0; ship < 3; ship++) {
            x.lift(ship, 1, 3);
            x.lift(ship, 2, 3);
            x.lift(ship, 2, 0);
        }
    }

    /** Lives a little, then tells all that can be seen. */
    private static String lived(DayPort x) {
        StringBuilder seen = new StringBuilder();
        for (int i = 0; i < 4; i++) {
            seen.append(x.lift(1 - i % 2, 2 - i % 3, 3)).append(' ').append(x.lift(i % 2, 0, 1)).append(' ');
            seen.append(x.dawn()).append(' ').append(x.open(i, i % 2 == 0)).append(' ').append(x.image()).append(' ');
        }
        return seen.append(Edges.seen(x)).toString();
    }

    // ---- "4 (the PORT stays)"

    private static void portStays() {
        DayPort x = used();
        DayPort y = used();
        CHECK.due("port", Check.tell(x, P + S + ";crate z plain on s stack 2 is 8 weighs 1"), -1);
        CHECK.due("port", Check.tell(y, P), -1);
        CHECK.due("fault", x.fault(), 6);
        CHECK.due("hadOn", x.hadOn(4), 1);
        CHECK.due("late", x.late(1), 3);
        CHECK.due("share", x.share(1, 6), 5);
        CHECK.due("come", x.come(0, 1, false), 99);
        CHECK.due("rests", x.rests(), used().rests());
        CHECK.due("size(10)", x.size(10), 6);
        CHECK.due("size(11)", x.size(11), 1);
        CHECK.due("nothing of the draft is seen", Edges.seen(x), Edges.seen(y));
        CHECK.due("sound behind it", Check.tell(x, SOUND), 0);
        CHECK.due("fault", x.fault(), 0);
    }

    // ---- Promises 4 and 5

    private static void faultOfTheLatestPort() {
        DayPort x = new DayPort();
        CHECK.due("before any port", x.fault(), 0);
        x.port(5);
        CHECK.due("refused by 2 first", x.fault(), 0);
        String[] texts = {"!", P + S + ";road x", P + ";port", "port straw 1 wage 0", P + S + S.replace(" s ", " u ")
            + S.replace(" s ", " v ") + ";ship", "ship"};
        for (int number = 1; number <= 6; number++) {
            Check.tell(x, texts[number - 1]);
            CHECK.due("fault", x.fault(), number);
            int place = x.where();
            CHECK.due("where twice", x.where(), place);
            x.size(0);
            x.fault();
            CHECK.brokenIs(x, 0, -1);
            CHECK.due("where stays", x.where(), place);
            CHECK.refused(x, "port(1)", x.port(1), -1, 2);
            CHECK.due("fault behind a 2", x.fault(), number);
            CHECK.due("where behind a 2", x.where(), -1);
        }
        Check.tell(x, SOUND);
        x.port(9);
        CHECK.due("fault of a sound text", x.fault(), 0);
        x.next();
        CHECK.due("where", x.where(), -1);
    }

    public static void main(String[] args) {
        newObject();
        everyCallWithoutPort();
        tapeFillsUp();
        noneComesBeyond();
        lastBytesOfTheTape();
        orderOfBytes();
        numbersOfBytes();
        firstBytesAlone();
        noBytes();
        portBeginsAnew();
        portsOneBehindTheOther();
        portStays();
        faultOfTheLatestPort();
        CHECK.end();
    }
}
