import java.lang.reflect.Field;
import java.lang.reflect.Method;
import java.lang.reflect.Modifier;
import java.util.Arrays;
import java.util.TreeSet;

/** The public face as the document has it, and what LANGUAGE.md's rules 1 and 5 say of members. */
public final class FaceTest {
    private static final Check CHECK = new Check("FaceTest");
    private static final String[] FACE = {
        "int feed(int,int,int,int,int)", "int port(int)", "int fault()", "int where()", "int crate(int,int)",
        "int high(int,int)", "int lies(int,int,int)", "int quay(int)", "int next()", "int had(int)", "int hadOn(int)",
        "int missing()", "int evenings()", "int judge()", "long come(int,int,boolean)", "long allCome(int,boolean)",
        "int sure(int)", "long mean(int,boolean)", "int weight(int)", "int heaviest(int)", "int fewest(int)",
        "int liftAt(int,int)", "int wrongly(int)", "int fits()", "int could()", "int surely()", "int ask()",
        "int askLeaves()", "int share(int,int)", "int late(int)", "int farthest()", "int wayAt(int,int)",
        "int inland(int,int)", "int people(int,int)", "int strike(int,int,boolean)", "int rests()", "int rest(int)",
        "int winter(int)", "int lates(int,int,int)", "int lift(int,int,int)", "int dawn()", "boolean open(int,boolean)",
        "boolean undo()", "int image()", "boolean back(int)", "int led(int) throws java.util.NoSuchElementException",
        "int size(int)", "int trouble()"};

    private static String signature(Method m) {
        String[] words = m.toString().split(" ");
        String shown = String.join(" ", Arrays.copyOfRange(words, 1, words.length));
        return shown.replace("DayPort.", "");
    }

    private static boolean isPublic(int modifiers) {
        return Modifier.isPublic(modifiers);
    }

    private static void methods() {
        TreeSet<String> shown = new TreeSet<>();
        TreeSet<String> names = new TreeSet<>();
        for (Method m : DayPort.class.getDeclaredMethods()) {
            if (isPublic(m.getModifiers())) {
                shown.add(signature(m));
                names.add(m.getName());
            }
        }
        TreeSet<String> due = new TreeSet<>(Arrays.asList(FACE));
        CHECK.due("the face " + shown, shown.equals(due), true);
        for (Class<?> type : allClasses()) {
            for (Method m : type.getDeclaredMethods()) {
                boolean faced = type == DayPort.class && isPublic(m.getModifiers());
                CHECK.due(type + " " + m.getName() + " is private, or of a class inside",
                    faced || type != DayPort.class || Modifier.isPrivate(m.getModifiers()), true);
                CHECK.due(type + " " + m.getName() + " bears a name of its own", faced || !names.contains(m.getName()),
                    true);
                CHECK.due(type + " " + m.getName() + " takes few parameters", m.getParameterCount() <= 7, true);
            }
        }
    }

    private static Class<?>[] allClasses() {
        Class<?>[] inside = DayPort.class.getDeclaredClasses();
        Class<?>[] all = Arrays.copyOf(inside, inside.length + 1);
        all[inside.length] = DayPort.class;
        return all;
    }

    private static void fields() {
        for (Class<?> type : allClasses()) {
            int own = 0;
            for (Field f : type.getDeclaredFields()) {
                boolean isStatic = Modifier.isStatic(f.getModifiers());
                own += isStatic ? 0 : 1;
                CHECK.due(type + " " + f.getName() + " static is final", !isStatic
                    || Modifier.isFinal(f.getModifiers()), true);
                CHECK.due(type + " " + f.getName() + " is private", type != DayPort.class || f.getName().equals("NONE")
                    || Modifier.isPrivate(f.getModifiers()), true);
            }
            CHECK.due(type + " has few fields", own <= 20, true);
        }
    }

    public static void main(String[] args) {
        int modifiers = DayPort.class.getModifiers();
        CHECK.due("public final", isPublic(modifiers) && Modifier.isFinal(modifiers), true);
        CHECK.due("one constructor", DayPort.class.getDeclaredConstructors().length, 1);
        CHECK.due("NONE", DayPort.NONE, -1);
        CHECK.due("few classes", allClasses().length <= 12, true);
        for (Class<?> type : DayPort.class.getDeclaredClasses()) {
            CHECK.due(type + " is static and not public", Modifier.isStatic(type.getModifiers())
                && !isPublic(type.getModifiers()), true);
        }
        methods();
        fields();
        CHECK.end();
    }
}
