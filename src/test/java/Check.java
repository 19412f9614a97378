/** Counts wrong answers and tells texts to a DayPort. */
final class Check {
    static final String PORT = "port straw 33 wage 20 gang 3 council 4";
    static final String SHIP = "ship s day 1 chance 25 late 4 says 2";
    static final String TOWN = "town t people 7";

    private final String name;
    private int asked = 0;
    private int wrong = 0;

    Check(String name) {
        this.name = name;
    }

    void due(String call, long got, long want) {
        asked++;
        if (got != want) {
            wrong++;
            if (wrong <= 40) {
                System.out.println(name + ": " + call + " answered " + got + ", due is " + want);
            }
        }
    }

    void due(String call, boolean got, boolean want) {
        due(call, got ? 1 : 0, want ? 1 : 0);
    }

    /** A call was refused: its answer, and TROUBLE. */
    void refused(DayPort x, String call, long got, long want, int trouble) {
        due(call, got, want);
        due("trouble() of " + call, x.trouble(), trouble);
    }

    void refused(DayPort x, String call, boolean got, int trouble) {
        due(call, got, false);
        due("trouble() of " + call, x.trouble(), trouble);
    }

    void brokenIs(DayPort x, int i, int want) {
        int got = DayPort.NONE;
        try {
            got = x.led(i);
        } catch (java.util.NoSuchElementException e) {
            got = DayPort.NONE;
        }
        due("led(" + i + ")", got, want);
    }

    static void feed(DayPort x, String text) {
        StringBuilder padded = new StringBuilder(text);
        while (padded.length() % 20 != 0) {
            padded.append(' ');
        }
        for (int i = 0; i < padded.length(); i += 20) {
            x.feed(four(padded, i), four(padded, i + 4), four(padded, i + 8), four(padded, i + 12), four(padded, i + 16));
        }
    }

    private static int four(CharSequence text, int at) {
        return text.charAt(at) << 24 | text.charAt(at + 1) << 16 | text.charAt(at + 2) << 8 | text.charAt(at + 3);
    }

    static int tell(DayPort x, String text) {
        feed(x, text);
        return x.port(text.length());
    }

    static DayPort of(String text) {
        DayPort x = new DayPort();
        int crates = tell(x, text);
        if (crates < 0) {
            throw new IllegalStateException(text + ": FAULT " + x.fault() + " at " + x.where());
        }
        return x;
    }

    /** A port with one ship, one town, and these lines between them. */
    static DayPort with(String... lines) {
        StringBuilder text = new StringBuilder(PORT + ";" + SHIP);
        for (String line : lines) {
            text.append(';').append(line);
        }
        return of(text.append(';').append(TOWN).toString());
    }

    void end() {
        System.out.println(name + ": " + asked + " answers, " + wrong + " wrong");
        if (wrong != 0) {
            System.exit(1);
        }
    }
}
