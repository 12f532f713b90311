import java.lang.management.ManagementFactory;
import java.lang.reflect.Array;
import java.lang.reflect.Field;
import java.lang.reflect.Modifier;
import java.util.ArrayDeque;
import java.util.Collections;
import java.util.Deque;
import java.util.IdentityHashMap;
import java.util.Set;

/** The room of a run: a new object is small, and the calls make no objects, however many they are. */
public final class RoomTest {
    private static final com.sun.management.ThreadMXBean THREADS =
        (com.sun.management.ThreadMXBean) ManagementFactory.getThreadMXBean();

    // A five-hundredth of the room of 600,000 objects and 7.3 million fields and elements.
    private static final int MOST_OBJECTS = 1200, MOST_PARTS = 14600;

    private final Set<Object> seen = Collections.newSetFromMap(new IdentityHashMap<>());
    private final Deque<Object> waiting = new ArrayDeque<>();
    private int parts;

    public static void main(String[] args) throws IllegalAccessException {
        calls();
        new RoomTest().newObject();
        Check.end();
    }

    private static void calls() {
        // The first time loads classes and the like, which is not the class's room.
        roomOf(new SealedWire(1));
        SealedWire x = new SealedWire(2);
        long room = roomOf(x);
        Check.due("both are OPEN", x.look(0, 0) + x.look(1, 0), 4);
        Check.due("requests answered", x.count(1), 100);
        Check.due("500 calls stay within 4 KiB: " + room, room < 4096 ? 1 : 0, 1);
    }

    private static long roomOf(SealedWire x) {
        long before = THREADS.getCurrentThreadAllocatedBytes();
        x.key(0, 0);
        x.key(1, 0);
        x.greet(0);
        x.receive(0);
        x.receive(1);
        x.receive(0);
        for (int i = 0; i < 100; i++) {
            x.feed(i, i, i, i, i);
            x.request(1 + 2 * (i & 1));
            x.receive(0);
            x.receive(1);
            x.answer();
        }
        return THREADS.getCurrentThreadAllocatedBytes() - before;
    }

    private void newObject() throws IllegalAccessException {
        waiting.add(new SealedWire(3));
        while (!waiting.isEmpty()) {
            Object next = waiting.remove();
            if (seen.add(next)) {
                if (next.getClass().isArray()) {
                    countElements(next);
                } else {
                    countFields(next);
                }
            }
        }
        Check.due("objects and arrays of a new object: " + seen.size(), seen.size() <= MOST_OBJECTS ? 1 : 0, 1);
        Check.due("fields and elements of a new object: " + parts, parts <= MOST_PARTS ? 1 : 0, 1);
    }

    private void countElements(Object row) {
        int length = Array.getLength(row);
        parts += length;
        for (int i = 0; i < length && !row.getClass().getComponentType().isPrimitive(); i++) {
            waiting.add(Array.get(row, i));
        }
    }

    private void countFields(Object object) throws IllegalAccessException {
        for (Field field : object.getClass().getDeclaredFields()) {
            if (!Modifier.isStatic(field.getModifiers())) {
                parts++;
                field.setAccessible(true);
                if (!field.getType().isPrimitive()) {
                    waiting.add(field.get(object));
                }
            }
        }
    }
}
