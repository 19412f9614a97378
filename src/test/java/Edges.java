import java.util.function.Supplier;
import java.util.function.ToLongFunction;

/** Calls at the edges that the document names: the answer, TROUBLE, the place, and what must not have changed. */
final class Edges {
    private static final int X = 0x78202020;
    private static final int BLANKS = 0x20202020;

    private final Check check;
    private final Supplier<DayPort> maker;

    Edges(Check check, Supplier<DayPort> maker) {
        this.check = check;
        this.maker = maker;
    }

    /** The call is refused by a number, and all is as if it had not been made. */
    void refuses(String call, ToLongFunction<DayPort> made, long answer, int trouble) {
        DayPort x = troubled();
        check.due(call, made.applyAsLong(x), answer);
        behind(call, x, trouble);
        unchanged(call, x);
    }

    /** The call isn't refused, and only asks. */
    void answers(String call, ToLongFunction<DayPort> made, long answer) {
        DayPort x = troubled();
        check.due(call, made.applyAsLong(x), answer);
        behind(call, x, 0);
        unchanged(call, x);
    }

    /** The call isn't refused, and does something; the object is handed back for more. */
    DayPort acts(String call, ToLongFunction<DayPort> made, long answer) {
        DayPort x = troubled();
        check.due(call, made.applyAsLong(x), answer);
        behind(call, x, 0);
        return x;
    }

    /** The call is none of those that may be refused: TROUBLE and the place stay as they were. */
    void leavesTrouble(String call, ToLongFunction<DayPort> made, long answer) {
        DayPort x = troubled();
        check.due(call, made.applyAsLong(x), answer);
        check.due("trouble() behind " + call, x.trouble(), 4);
        check.due("where() behind " + call, x.where(), 0);
    }

    private void behind(String call, DayPort x, int trouble) {
        check.due("trouble() behind " + call, x.trouble(), trouble);
        check.due("where() behind " + call, x.where(), DayPort.NONE);
    }

    private void unchanged(String call, DayPort x) {
        check.due("all as it was behind " + call, seen(x), seen(troubled()));
    }

    // A FAULT at 0 ahead of the call, so that a TROUBLE and a place which the call doesn't tell are seen.
    private DayPort troubled() {
        DayPort x = maker.get();
        x.feed(X, BLANKS, BLANKS, BLANKS, BLANKS);
        x.port(1);
        return x;
    }

    /** All that can be seen of an object; it is used up by that. */
    static String seen(DayPort x) {
        StringBuilder seen = new StringBuilder("fault " + x.fault() + " sizes");
        for (int what = 0; what <= 12; what++) {
            seen.append(' ').append(x.size(what));
        }
        for (int c = 0; c < x.size(3); c++) {
            seen.append(" crate");
            for (int what = 0; what <= 6; what++) {
                seen.append(' ').append(x.crate(c, what));
            }
        }
        for (int stack = 0; stack < 3 * x.size(2); stack++) {
            seen.append(" stack");
            for (int i = 0; i < x.high(stack / 3, stack % 3); i++) {
                seen.append(' ').append(x.lies(stack / 3, stack % 3, i));
            }
        }
        seen.append(" quay");
        for (int i = 0; i < x.size(9); i++) {
            seen.append(' ').append(x.quay(i));
        }
        seen.append(" had");
        for (int day = 0; day < x.size(7); day++) {
            seen.append(' ').append(x.had(day));
        }
        seen.append(" night ").append(x.fits()).append(' ').append(x.could()).append(' ').append(x.surely());
        return seen.append(asTold(x)).append(undone(x)).append(imaged(x)).toString();
    }

    private static String asTold(DayPort x) {
        StringBuilder seen = new StringBuilder(" judge " + x.judge() + " farthest " + x.farthest() + " towns");
        for (int town = 0; town < x.size(4); town++) {
            seen.append(' ').append(x.late(town)).append(' ').append(x.share(town, 9999));
        }
        seen.append(" ships");
        for (int ship = 0; ship < x.size(2); ship++) {
            seen.append(' ').append(x.mean(ship, false)).append('/').append(x.mean(ship, true));
        }
        seen.append(" rests");
        for (int i = 0; i < x.rests(); i++) {
            seen.append(' ').append(x.rest(i));
        }
        return seen.toString();
    }

    private static String undone(DayPort x) {
        StringBuilder seen = new StringBuilder(" undone");
        for (int i = x.size(10); i > 0; i--) {
            seen.append(' ').append(x.undo()).append(brief(x));
        }
        return seen.toString();
    }

    private static String imaged(DayPort x) {
        StringBuilder seen = new StringBuilder(" imaged");
        for (int i = 0; i < x.size(11); i++) {
            seen.append(' ').append(x.back(i)).append(brief(x));
        }
        return seen.toString();
    }

    private static String brief(DayPort x) {
        return "(" + x.size(6) + " " + x.size(7) + " " + x.size(8) + " " + x.size(9) + " " + x.next() + ")";
    }
}
