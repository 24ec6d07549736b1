import java.lang.reflect.Array;
import java.lang.reflect.Field;
import java.lang.reflect.Modifier;
import java.util.ArrayDeque;
import java.util.Collections;
import java.util.IdentityHashMap;
import java.util.Set;

/** Were every call of a run as dear as the dearest one, all of them would fit in one room. */
public final class RoomTest {
    private static final int CALLS = 512;
    private static final int MOST_OBJECTS = 600000;
    private static final int MOST_PLACES = 7300000;
    private static final String HEAD = "project 0;main 0 0 0;rate ";
    private static final int LONGEST = 900;

    private final Set<Object> seen = Collections.newSetFromMap(new IdentityHashMap<>());
    private final ArrayDeque<Object> waiting = new ArrayDeque<>();
    private int places = 0;

    public static void main(String[] args) throws IllegalAccessException {
        ConstructionLedger x = new ConstructionLedger();
        RoomTest before = new RoomTest();
        before.count(x);
        fits("a new object", before.seen.size(), before.places);
        String rate = "1+".repeat((LONGEST - HEAD.length()) / 2 - 1) + "1;";
        Check.same("the longest text", Texts.load(x, HEAD + rate), 1);
        RoomTest after = new RoomTest();
        after.count(x);
        fits("a load", after.seen.size() - before.seen.size(), after.places - before.places);
        x.deposit(1);
        RoomTest later = new RoomTest();
        later.count(x);
        Check.yes("a change keeps nothing more", later.places <= after.places);
        Check.end("RoomTest");
    }

    private static void fits(String what, int objects, int places) {
        Check.yes(what + " in " + objects + " objects", objects * CALLS <= MOST_OBJECTS);
        Check.yes(what + " in " + places + " places", places * CALLS <= MOST_PLACES);
    }

    private void count(Object first) throws IllegalAccessException {
        meet(first);
        while (!waiting.isEmpty()) {
            Object next = waiting.remove();
            if (next.getClass().isArray()) {
                countArray(next);
            } else {
                countFields(next);
            }
        }
    }

    private void countArray(Object array) {
        places += Array.getLength(array);
        if (array instanceof Object[]) {
            for (Object element : (Object[]) array) {
                meet(element);
            }
        }
    }

    private void countFields(Object object) throws IllegalAccessException {
        for (Field field : object.getClass().getDeclaredFields()) {
            if (!Modifier.isStatic(field.getModifiers())) {
                places++;
                if (!field.getType().isPrimitive()) {
                    field.setAccessible(true);
                    meet(field.get(object));
                }
            }
        }
    }

    private void meet(Object object) {
        if (object != null && seen.add(object)) {
            waiting.add(object);
        }
    }
}
