import java.lang.reflect.Array;
import java.lang.reflect.Field;
import java.lang.reflect.Modifier;
import java.util.ArrayDeque;
import java.util.Collections;
import java.util.Deque;
import java.util.IdentityHashMap;
import java.util.Set;

/**
 * What an object holds, objects and arrays, fields and elements, counted: as much behind many calls as when it was made,
 * and so little that a run in which each of 512 calls makes a new one fits its room.
 */
final class RoomTest {
    private static final int CALLS = 512;
    private static final int ROOM_OF_OBJECTS = 600_000;
    private static final int ROOM_OF_PARTS = 7_300_000;

    private final Set<Object> objects = Collections.newSetFromMap(new IdentityHashMap<>());
    private final Deque<Object> left = new ArrayDeque<>();
    private long parts = 0;

    private RoomTest(Object root) throws IllegalAccessException {
        meet(root);
        while (!left.isEmpty()) {
            Object next = left.pop();
            if (next.getClass().isArray()) {
                countElements(next);
            } else {
                countFields(next);
            }
        }
    }

    public static void main(String[] args) throws IllegalAccessException {
        Check check = new Check("RoomTest");
        GapLinks x = new GapLinks();
        RoomTest made = new RoomTest(x);
        check.due("objects and arrays of 512, each " + made.objects.size(), true,
                (long) made.objects.size() * CALLS <= ROOM_OF_OBJECTS);
        check.due("fields and elements of 512, each " + made.parts, true, made.parts * CALLS <= ROOM_OF_PARTS);
        use(x);
        RoomTest used = new RoomTest(x);
        check.due("objects and arrays behind many calls", made.objects.size(), used.objects.size());
        check.due("fields and elements behind many calls", made.parts, used.parts);
        check.due("behind many calls all are the same as at first", true, used.objects.equals(made.objects));
        check.finish();
    }

    private static void use(GapLinks x) {
        for (int k = 0; k < 4; k++) {
            Check.read(x, Check.THREE);
            for (int l = 0; l < 3; l++) {
                x.send(l, 16);
                x.babble(l, 20);
                x.keep();
                x.ticks(600);
                x.willHear(600, l, 0, 0);
                x.quiet();
                x.back();
            }
            Check.read(x, "bus switches 4");
        }
    }

    private void meet(Object object) {
        if (object != null && objects.add(object)) {
            left.push(object);
        }
    }

    private void countElements(Object array) {
        parts += Array.getLength(array);
        for (int k = 0; !array.getClass().getComponentType().isPrimitive() && k < Array.getLength(array); k++) {
            meet(Array.get(array, k));
        }
    }

    private void countFields(Object object) throws IllegalAccessException {
        for (Field field : object.getClass().getDeclaredFields()) {
            if (!Modifier.isStatic(field.getModifiers())) {
                parts++;
                field.setAccessible(true);
                if (!field.getType().isPrimitive()) {
                    meet(field.get(object));
                }
            }
        }
    }
}
