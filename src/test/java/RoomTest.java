import java.lang.reflect.Array;
import java.lang.reflect.Field;
import java.lang.reflect.Modifier;
import java.util.ArrayDeque;
import java.util.Deque;
import java.util.IdentityHashMap;
import java.util.Map;

/**
 * All calls of one run live in one room of some 600,000 objects and arrays, 7.3 million fields and elements: a run that
 * makes an object at each of 512 calls has to stay far below that, and nothing may grow by calls.
 */
final class RoomTest {
    private static final int MOST_OBJECTS = 600_000 / 512 / 4;
    private static final int MOST_ELEMENTS = 7_300_000 / 512 / 4;
    private static final Check check = new Check();

    private static int objects;
    private static int elements;

    public static void main(String[] args) throws IllegalAccessException {
        count(new ForestLegs());
        int objectsNew = objects;
        int elementsNew = elements;
        check.due("a new object: " + objects + " objects and arrays", objects > 1 && objects <= MOST_OBJECTS ? 1 : 0, 1);
        check.due("a new object: " + elements + " fields and elements", elements > 900 && elements <= MOST_ELEMENTS ? 1 : 0, 1);

        ForestLegs used = Forest.fresh();
        for (int round = 0; round < 8; round++) {
            Check.state(used);
            used.become(0, round);
            used.packs(31);
            used.mistakes(0);
            used.cancel(2, 0);
            Check.tell(used, round % 2 == 0 ? "?" : Forest.TEXT);
        }
        count(used);
        check.due("objects and arrays of a used one", objects, objectsNew);
        check.due("fields and elements of a used one", elements, elementsNew);
        check.end();
    }

    private static void count(Object first) throws IllegalAccessException {
        objects = 0;
        elements = 0;
        Map<Object, Boolean> seen = new IdentityHashMap<>();
        Deque<Object> open = new ArrayDeque<>();
        open.add(first);
        seen.put(first, true);
        while (!open.isEmpty()) {
            Object one = open.remove();
            objects++;
            if (one.getClass().isArray()) {
                countArray(one, seen, open);
            } else {
                countFields(one, seen, open);
            }
        }
    }

    private static void countArray(Object row, Map<Object, Boolean> seen, Deque<Object> open) {
        elements += Array.getLength(row);
        for (int i = 0; i < Array.getLength(row) && !row.getClass().getComponentType().isPrimitive(); i++) {
            meet(Array.get(row, i), seen, open);
        }
    }

    private static void countFields(Object one, Map<Object, Boolean> seen, Deque<Object> open) throws IllegalAccessException {
        for (Field field : one.getClass().getDeclaredFields()) {
            if (Modifier.isStatic(field.getModifiers())) {
                continue;
            }
            elements++;
            if (!field.getType().isPrimitive()) {
                field.setAccessible(true);
                meet(field.get(one), seen, open);
            }
        }
    }

    private static void meet(Object other, Map<Object, Boolean> seen, Deque<Object> open) {
        if (other != null && seen.put(other, true) == null) {
            open.add(other);
        }
    }
}
