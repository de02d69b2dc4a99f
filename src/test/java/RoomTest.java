import java.lang.reflect.Array;
import java.lang.reflect.Field;
import java.lang.reflect.Modifier;
import java.util.Collections;
import java.util.IdentityHashMap;
import java.util.Set;

/**
 * All calls of a run share one room, and to make an object is the call that takes the most of it:
 * even 512 objects must find room.
 */
public final class RoomTest {
    private static final Check CHECK = new Check("RoomTest");
    private static final int CALLS = 512;
    private static final int ROOM_OBJECTS = 600000;
    private static final int ROOM_ELEMENTS = 7300000;

    private int objects = 0;
    private int elements = 0;
    private final Set<Object> seen = Collections.newSetFromMap(new IdentityHashMap<>());

    public static void main(String[] args) throws IllegalAccessException {
        SchubertDesk x = new SchubertDesk();
        RoomTest made = new RoomTest();
        made.count(x);
        System.out.println("RoomTest: an object has " + made.objects + " objects and arrays, with "
                + made.elements + " fields and elements");
        CHECK.holds("room for so many objects", made.objects * CALLS <= ROOM_OBJECTS);
        CHECK.holds("room for so many elements", made.elements * CALLS <= ROOM_ELEMENTS);
        useAll(x);
        RoomTest used = new RoomTest();
        used.count(x);
        CHECK.due("objects and arrays after calls", used.objects, made.objects);
        CHECK.due("fields and elements after calls", used.elements, made.elements);
        CHECK.end();
    }

    private static void useAll(SchubertDesk x) {
        x.add(1000, 13452);
        x.multiply(14523);
        x.difference(2);
        x.part(-1);
        x.times(21);
        x.words(54321);
        x.dream(15432, -1);
        x.ladder(944, -1);
        x.rise(43218765, 4, -1);
        x.step(765432198, -1);
        x.value(123945678, 3, 3, 3, 3);
    }

    private void count(Object held) throws IllegalAccessException {
        if (held == null || !seen.add(held)) {
            return;
        }
        objects++;
        if (held.getClass().isArray()) {
            countArray(held);
            return;
        }
        for (Field field : held.getClass().getDeclaredFields()) {
            if (!Modifier.isStatic(field.getModifiers())) {
                elements++;
                field.setAccessible(true);
                countWithin(field.getType(), field.get(held));
            }
        }
    }

    private void countArray(Object array) throws IllegalAccessException {
        int length = Array.getLength(array);
        elements += length;
        for (int k = 0; k < length; k++) {
            countWithin(array.getClass().getComponentType(), Array.get(array, k));
        }
    }

    private void countWithin(Class<?> type, Object held) throws IllegalAccessException {
        if (!type.isPrimitive()) {
            count(held);
        }
    }
}
