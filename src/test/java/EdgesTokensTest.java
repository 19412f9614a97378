import java.util.ArrayList;
import java.util.List;

/** "Terms" I, as far as TOKENS, the form of LINES and the bounds of WHOLES go: FAULTS 1 and 4 at every place. */
public final class EdgesTokensTest {
    private static final Check CHECK = new Check("EdgesTokensTest");
    private static final String P = "port straw 1 wage 1 gang 0 council 0";
    private static final String S = ";ship s day 1 chance 1 late 1 says 1";
    private static final String T = ";town t people 1";
    private static final String C = ";crate c wet on s stack 0 is 1 weighs 1";
    private static final String[] RESERVED = {"port", "ship", "crate", "town", "road", "opened"};

    /** A text with a LINE of each sort; # stands ahead of a NAME. */
    private static final String ALL = "port straw 7 wage 8 gang 9 council 10 ; ship #s day 11 chance 12 late 13 says 14 ; "
        + "crate #c lashed on #s stack 2 is 15 weighs 16 ; town #t people 17 ; town #u people 18 ; road #t #u days 9 ; "
        + "opened #c night";

    // ---- "blanks, 32, part TOKENS and mean nothing else"

    private static void blanks() {
        CHECK.sound("port straw1wage1gang0council0;ship s day1chance1late1says1;town t people1", 0);
        CHECK.sound((P + S + C + T).replace(" ", "    ").replace(";", "  ;  "), 1);
        CHECK.sound("     " + P + S + T + "     ", 0);
        CHECK.fault("po rt straw 1", 1, 0);
        CHECK.fault("port str aw 1", 1, 5);
        CHECK.fault("port straw 1 1 wage 1", 1, 13);
        // Without a blank a NAME and the WORD behind it are one WORD.
        CHECK.fault(P + ";ship sday 1", 1, P.length() + 11);
        CHECK.fault(P + ";shipsday 1", 1, P.length() + 1);
    }

    // ---- "the first byte that begins no TOKEN"

    private static void everyByteFirst() {
        for (char sign = 0; sign < 256; sign++) {
            if (sign == ' ') {
                CHECK.sound(sign + P + S + T, 0);
            } else {
                CHECK.fault(sign + P + S + T, 1, 0);
            }
        }
    }

    private static void everyByteBetween() {
        for (char sign = 0; sign < 256; sign++) {
            String text = "port" + sign + "straw 1 wage 1 gang 0 council 0" + S + T;
            if (sign == ' ') {
                CHECK.sound(text, 0);
            } else {
                CHECK.fault(text, 1, sign >= 'a' && sign <= 'z' ? 0 : 4);
            }
        }
    }

    private static void everyByteBehindAll() {
        String text = P + S + T;
        for (char sign = 0; sign < 256; sign++) {
            if (sign == ' ' || sign >= '0' && sign <= '9') {
                CHECK.sound(text + sign, 0);
            } else {
                CHECK.fault(text + sign, 1, sign == ';' ? text.length() + 1 : text.length());
            }
        }
    }

    // ---- "WORDS of 1 to 8 small letters that stand together"

    private static void lengthsOfWords() {
        String name = "";
        for (int length = 1; length <= 8; length++) {
            name += length % 2 == 0 ? "a" : "z";
            CHECK.sound(P + S.replace(" s ", " " + name + " ") + C.replace(" s ", " " + name + " ") + T, 1);
            CHECK.sound(P + S + C.replace(" c ", " " + name + " ") + ";opened " + name + " day" + T, 1);
            CHECK.sound(P + S + T + ";town " + name + " people 1;road t " + name + " days 1", 0);
        }
        String[] aheads = {P + ";ship", P + S + ";crate", P + S + ";town", P + S + ";crate c wet on", P + S + T + ";road",
            P + S + T + ";road t", P + S + C + ";opened", P + S + ";crate c", "port"};
        for (String ahead : aheads) {
            CHECK.faultAtLast(ahead + " zazazazaz", 1);
            CHECK.faultAtLast(ahead + " zazazazazazazazazazazazazazazazazaz", 1);
        }
    }

    /** Names of eight letters that differ in one letter alone, wherever it is, are told apart. */
    private static void namesByEachLetter() {
        for (int i = 0; i < 8; i++) {
            String other = "mmmmmmmm".substring(0, i) + "n" + "mmmmmmmm".substring(i + 1);
            CHECK.sound(P + S + ";town mmmmmmmm people 1;town " + other + " people 1;road mmmmmmmm " + other + " days 1", 0);
            CHECK.faultAtLast(P + S + ";town mmmmmmmm people 1;road " + other, 2);
        }
    }

    // ---- "WHOLES of 1 to 3 digits that do"

    private static void lengthsOfWholes() {
        CHECK.due("one digit", CHECK.sound("port straw 7 wage 9 gang 0 council 0" + S + T, 0).size(0), 7);
        CHECK.due("two digits", CHECK.sound("port straw 07 wage 09 gang 00 council 00" + S + T, 0).size(0), 7);
        CHECK.due("three digits", CHECK.sound("port straw 007 wage 009 gang 000 council 000" + S + T, 0).size(0), 7);
        for (String whole : new String[] {"0000", "0007", "1000", "9999", "4294967297", "000000000000000000000000007"}) {
            CHECK.faultAtLast("port straw " + whole, 1);
            CHECK.fault("port straw " + whole + " wage 1", 1, 11);
        }
    }

    // ---- "or TOKEN with which no PORT goes on (the end: its place)", at each TOKEN of a text

    private static List<String> tokens() {
        return new ArrayList<>(List.of(ALL.split(" ")));
    }

    private static String text(List<String> tokens) {
        return String.join(" ", tokens).replace("#", "");
    }

    private static void formAt(int i, String token) {
        List<String> tokens = tokens();
        tokens.set(i, token);
        int place = i == 0 ? 0 : text(tokens.subList(0, i)).length() + 1;
        CHECK.fault(text(tokens), 1, place);
    }

    private static void everyToken() {
        List<String> tokens = tokens();
        CHECK.sound(text(tokens), 1);
        for (int i = 0; i < tokens.size(); i++) {
            String token = tokens.get(i);
            for (String none : new String[] {"!", "A", "zzzzzzzzz", "1234", "-1", "."}) {
                formAt(i, none);
            }
            formAt(i, token.matches("[0-9]+") ? "x" : "1");
            formAt(i, token.equals(";") ? "x" : ";");
            if (token.matches("[a-z]+")) {
                formAt(i, "x");
                formAt(i, token + "x");
                formAt(i, token.substring(1));
                everyLetter(i, token);
            }
            if (i > 0 && !tokens.get(i - 1).equals(";")) {
                for (String reserved : RESERVED) {
                    formAt(i, reserved);
                }
            }
        }
    }

    private static void everyLetter(int i, String word) {
        for (int k = 0; k < word.length(); k++) {
            formAt(i, word.substring(0, k) + "x" + word.substring(k + 1));
        }
    }

    private static void everyEnd() {
        List<String> tokens = tokens();
        for (int i = 0; i < tokens.size(); i++) {
            String text = text(tokens.subList(0, i));
            boolean endsLine = tokens.get(i).equals(";");
            if (endsLine && text.contains("town")) {
                CHECK.sound(text, 1);
                CHECK.sound(text + "   ", 1);
            } else {
                CHECK.fault(text, endsLine ? 6 : 1, text.length());
                CHECK.fault(text + "   ", endsLine ? 6 : 1, text.length() + 3);
            }
        }
    }

    // ---- "LINE {; LINE}", "single ones of ;"

    private static void semicolons() {
        CHECK.fault(";", 1, 0);
        CHECK.fault(";" + P + S + T, 1, 0);
        CHECK.fault(P + ";" + S + T, 1, P.length() + 1);
        CHECK.fault(P + S + T + ";", 1, (P + S + T).length() + 1);
        CHECK.fault(P + S + T + "; ", 1, (P + S + T).length() + 2);
        CHECK.fault(P + S.replace(';', ' ') + T, 1, P.length() + 1);
    }

    // ---- "4 a WHOLE out of bounds; at it", both ends of each

    private static void bound(String ahead, int low, int high, String behind) {
        int crates = ahead.contains("crate") ? 1 : 0;
        CHECK.sound(ahead + " " + low + behind, crates);
        CHECK.sound(ahead + " " + high + behind, crates);
        if (low > 0) {
            CHECK.faultAtLast(ahead + " " + (low - 1), 4);
            CHECK.fault(ahead + " " + (low - 1) + behind, 4, ahead.length() + 1);
        }
        if (high < 999) {
            CHECK.faultAtLast(ahead + " " + (high + 1), 4);
            CHECK.faultAtLast(ahead + " 999", 4);
            CHECK.fault(ahead + " " + (high + 1) + behind, 4, ahead.length() + 1);
        }
        CHECK.faultAtLast(ahead + " 1000", 1);
    }

    private static void bounds() {
        bound("port straw", 0, 999, " wage 1 gang 0 council 0" + S + T);
        bound("port straw 1 wage", 1, 99, " gang 0 council 0" + S + T);
        bound("port straw 1 wage 1 gang", 0, 30, " council 0" + S + T);
        bound("port straw 1 wage 1 gang 0 council", 0, 30, S + T);
        bound(P + ";ship s day", 0, 60, " chance 1 late 1 says 1" + T);
        bound(P + ";ship s day 1 chance", 0, 100, " late 1 says 1" + T);
        bound(P + ";ship s day 1 chance 1 late", 1, 30, " says 1" + T);
        bound(P + ";ship s day 1 chance 1 late 1 says", 0, 20, T);
        bound(P + S + ";crate c wet on s stack", 0, 2, " is 1 weighs 1" + T);
        bound(P + S + ";crate c wet on s stack 0 is", 1, 99, " weighs 1" + T);
        bound(P + S + ";crate c wet on s stack 0 is 1 weighs", 1, 30, T);
        bound(P + S + ";town t people", 1, 99, "");
        bound(P + S + T + ";town u people 1;road t u days", 1, 9, "");
    }

    private static void leastOfAllBounds() {
        DayPort x = CHECK.sound("port straw 0 wage 1 gang 0 council 0;ship s day 0 chance 0 late 1 says 0;"
            + "crate c plain on s stack 0 is 1 weighs 1;town t people 1;town u people 1;road t u days 1", 1);
        CHECK.due("straw", x.size(0), 0);
        CHECK.due("wage", x.strike(1, 0, false), 1);
        CHECK.due("gang", x.strike(9, 9, false), 0);
        CHECK.due("council", x.strike(9, 9, true), 0);
        CHECK.due("day", x.mean(0, false), 0);
        CHECK.due("stack", x.crate(0, 4), 0);
        CHECK.due("NUMBER", x.crate(0, 2), 1);
        CHECK.due("weighs", x.crate(0, 3), 1);
        CHECK.due("people", x.people(1, 0), -2);
        CHECK.due("days", x.late(1), 1);
    }

    private static void greatestOfAllBounds() {
        DayPort x = CHECK.sound("port straw 999 wage 99 gang 30 council 30;ship s day 60 chance 100 late 30 says 20;"
            + "crate c lashed on s stack 2 is 99 weighs 30;town t people 99;town u people 99;road t u days 9", 1);
        CHECK.due("straw", x.size(0), 999);
        CHECK.due("wage", x.strike(1, 0, false), 99);
        CHECK.due("gang", x.strike(9, 9, false), -270);
        CHECK.due("council", x.strike(9, 9, true), -270);
        CHECK.due("day and late", x.mean(0, false), 90);
        CHECK.due("stack", x.crate(0, 4), 2);
        CHECK.due("NUMBER", x.crate(0, 2), 99);
        CHECK.due("weighs", x.crate(0, 3), 30);
        CHECK.due("people", x.people(1, 0), -198);
        CHECK.due("days", x.late(1), 9);
    }

    public static void main(String[] args) {
        blanks();
        everyByteFirst();
        everyByteBetween();
        everyByteBehindAll();
        lengthsOfWords();
        namesByEachLetter();
        lengthsOfWholes();
        everyToken();
        everyEnd();
        semicolons();
        bounds();
        leastOfAllBounds();
        greatestOfAllBounds();
        CHECK.end();
    }
}
