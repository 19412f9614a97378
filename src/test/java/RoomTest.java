import java.lang.reflect.Array;
import java.lang.reflect.Field;
import java.lang.reflect.Modifier;
import java.util.ArrayDeque;
import java.util.Collections;
import java.util.IdentityHashMap;
import java.util.Set;

/** All calls of a run live in one room: an object is small, and no call adds to what it holds. */
public final class RoomTest {
    private static final Check CHECK = new Check("RoomTest");

    private final Set<Object> met = Collections.newSetFromMap(new IdentityHashMap<>());
    private final ArrayDeque<Object> open = new ArrayDeque<>();
    private long parts = 0;

    /** How many objects and arrays hang together from here, and their fields and elements. */
    private RoomTest(Object root) throws IllegalAccessException {
        meet(root);
        while (!open.isEmpty()) {
            Object o = open.remove();
            if (o.getClass().isArray()) {
                elements(o);
            } else {
                fields(o);
            }
        }
    }

    private void meet(Object o) {
        if (o != null && met.add(o)) {
            open.add(o);
        }
    }

    private void elements(Object array) {
        parts += Array.getLength(array);
        for (int i = 0; i < Array.getLength(array) && !array.getClass().getComponentType().isPrimitive(); i++) {
            meet(Array.get(array, i));
        }
    }

    private void fields(Object o) throws IllegalAccessException {
        for (Field f : o.getClass().getDeclaredFields()) {
            if (!Modifier.isStatic(f.getModifiers())) {
                parts++;
                f.setAccessible(true);
                if (!f.getType().isPrimitive()) {
                    meet(f.get(o));
                }
            }
        }
    }

    private static void isAsSmallAs(DayPort x, RoomTest before, String when) throws IllegalAccessException {
        RoomTest now = new RoomTest(x);
        CHECK.due("objects " + when, now.met.size(), before.met.size());
        CHECK.due("fields and elements " + when, now.parts, before.parts);
        CHECK.due("the same objects " + when, before.met.containsAll(now.met), true);
    }

    private static void actOften(DayPort x) {
        for (int i = 0; i < 400; i++) {
            x.lift(i % 3, i / 3 % 3, i / 9 % 4);
            x.dawn();
            x.open(i % 15, i % 2 == 0);
            x.image();
            x.fewest(i % 3);
            x.askLeaves();
            x.back(i % 7);
            x.undo();
        }
    }

    public static void main(String[] args) throws IllegalAccessException {
        DayPort x = new DayPort();
        RoomTest before = new RoomTest(x);
        CHECK.due("few objects: " + before.met.size(), before.met.size() <= 300, true);
        CHECK.due("few fields and elements: " + before.parts, before.parts <= 6000, true);
        String text = Check.fullShips(Check.PORT, 9) + ";" + Check.TOWN;
        CHECK.due("port", Check.tell(x, text), 15);
        isAsSmallAs(x, before, "behind a text");
        actOften(x);
        isAsSmallAs(x, before, "behind acts");
        Check.tell(x, "port straw 1 wage 0");
        Check.tell(x, text);
        isAsSmallAs(x, before, "behind a FAULT and a text");
        CHECK.end();
    }
}
