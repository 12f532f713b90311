import java.lang.management.ManagementFactory;

/** The room of a run: the calls make no objects, however many they are. */
public final class RoomTest {
    private static final com.sun.management.ThreadMXBean THREADS =
        (com.sun.management.ThreadMXBean) ManagementFactory.getThreadMXBean();

    public static void main(String[] args) {
        // The first time loads classes and the like, which is not the class's room.
        roomOf(new SealedWire(1));
        SealedWire x = new SealedWire(2);
        long room = roomOf(x);
        Check.due("both are OPEN", x.look(0, 0) + x.look(1, 0), 4);
        Check.due("requests answered", x.count(1), 100);
        Check.due("500 calls stay within 4 KiB: " + room, room < 4096 ? 1 : 0, 1);
        Check.end();
    }

    private static long roomOf(SealedWire x) {
        long before = THREADS.getCurrentThreadAllocatedBytes();
        x.key(0, 0);
        x.key(1, 0);
        x.greet(0);
        x.receive(0);
        x.receive(1);
        x.receive(0);
        for (int i = 0; i < 100; i++) {
            x.feed(i, i, i, i, i);
            x.request(1 + 2 * (i & 1));
            x.receive(0);
            x.receive(1);
            x.answer();
        }
        return THREADS.getCurrentThreadAllocatedBytes() - before;
    }
}
