/** Counts wrong answers and tells texts to a DayPort. */
final class Check {
    static final String PORT = "port straw 33 wage 20 gang 3 council 4";
    static final String SHIP = "ship s day 1 chance 25 late 4 says 2";
    static final String TOWN = "town t people 7";

    private final String name;
    private int asked = 0;
    private int wrong = 0;

    Check(String name) {
        this.name = name;
    }

    void due(String call, long got, long want) {
        asked++;
        if (got != want) {
            wrong++;
            if (wrong <= 40) {
                System.out.println(name + ": " + call + " answered " + got + ", due is " + want);
            }
        }
    }

    void due(String call, boolean got, boolean want) {
        due(call, got ? 1 : 0, want ? 1 : 0);
    }

    void due(String call, String got, String want) {
        due(call + ": " + got + ", due is " + want, got.equals(want), true);
    }

    /** A call was refused: its answer, and TROUBLE. */
    void refused(DayPort x, String call, long got, long want, int trouble) {
        due(call, got, want);
        due("trouble() of " + call, x.trouble(), trouble);
    }

    void refused(DayPort x, String call, boolean got, int trouble) {
        due(call, got, false);
        due("trouble() of " + call, x.trouble(), trouble);
    }

    /** A text with a FAULT, told to a new object. */
    void fault(String text, int number, int place) {
        DayPort x = new DayPort();
        due(text + ": port", tell(x, text), DayPort.NONE);
        due(text + ": trouble", x.trouble(), 4);
        due(text + ": fault", x.fault(), number);
        due(text + ": where", x.where(), place);
        due(text + ": ships", x.size(2), 0);
        due(text + ": tape", x.size(12), 0);
    }

    /** The FAULT lies at the last token of the text, which begins behind its last blank or semicolon. */
    void faultAtLast(String text, int number) {
        fault(text, number, Math.max(text.lastIndexOf(' '), text.lastIndexOf(';')) + 1);
    }

    /** A text without a FAULT, told to a new object. */
    DayPort sound(String text, int crates) {
        DayPort x = new DayPort();
        due(text, tell(x, text), crates);
        due(text + ": trouble", x.trouble(), 0);
        due(text + ": fault", x.fault(), 0);
        due(text + ": where", x.where(), DayPort.NONE);
        due(text + ": tape", x.size(12), 0);
        return x;
    }

    void brokenIs(DayPort x, int i, int want) {
        int got = DayPort.NONE;
        try {
            got = x.led(i);
        } catch (java.util.NoSuchElementException e) {
            got = DayPort.NONE;
        }
        due("led(" + i + ")", got, want);
    }

    /** A text, filled up with blanks, as rows of five numbers for feed. */
    static int[][] rows(String text) {
        int[][] rows = new int[(text.length() + 19) / 20][5];
        for (int i = 0; i < rows.length * 20; i++) {
            int sign = i < text.length() ? text.charAt(i) : ' ';
            rows[i / 20][i % 20 / 4] = rows[i / 20][i % 20 / 4] << 8 | sign;
        }
        return rows;
    }

    static void feed(DayPort x, String text) {
        for (int[] row : rows(text)) {
            x.feed(row[0], row[1], row[2], row[3], row[4]);
        }
    }

    /** Three ships a, b, c with five wet crates each, all of one weight, behind a line port. */
    static String fullShips(String port, int weighs) {
        StringBuilder text = new StringBuilder(port);
        for (int s = 0; s < 3; s++) {
            char ship = (char) ('a' + s);
            text.append(";ship ").append(ship).append(" day 1 chance 1 late 1 says 1");
            for (int i = 1; i <= 5; i++) {
                text.append(";crate ").append(ship).append((char) ('a' + i)).append(" wet on ").append(ship);
                text.append(" stack ").append(i % 3).append(" is ").append(5 * s + i).append(" weighs ").append(weighs);
            }
        }
        return text.toString();
    }

    static int tell(DayPort x, String text) {
        feed(x, text);
        return x.port(text.length());
    }

    static DayPort of(String text) {
        DayPort x = new DayPort();
        int crates = tell(x, text);
        if (crates < 0) {
            throw new IllegalStateException(text + ": FAULT " + x.fault() + " at " + x.where());
        }
        return x;
    }

    /** A port with one ship, one town, and these lines between them. */
    static DayPort with(String... lines) {
        StringBuilder text = new StringBuilder(PORT + ";" + SHIP);
        for (String line : lines) {
            text.append(';').append(line);
        }
        return of(text.append(';').append(TOWN).toString());
    }

    void end() {
        System.out.println(name + ": " + asked + " answers, " + wrong + " wrong");
        if (wrong != 0) {
            System.exit(1);
        }
    }
}
