import java.lang.management.ManagementFactory;

/** The room that calls take: all of it is made in the constructor, whatever is called then. */
public final class RoomTest {
    private static final int CALLS = 512;
    // The document's room is 7.3 million elements for a run; an object is some 30,000 of them.
    private static final long ONE_OBJECT = 200_000;
    private static final long ALL_CALLS = 100_000;

    private RoomTest() {
    }

    public static void main(String[] args) {
        com.sun.management.ThreadMXBean meter =
                (com.sun.management.ThreadMXBean) ManagementFactory.getThreadMXBean();
        long me = Thread.currentThread().getId();
        // The first run loads classes, which is not the program's room.
        busy(new SpokenTree());
        long start = meter.getThreadAllocatedBytes(me);
        SpokenTree x = new SpokenTree();
        long made = meter.getThreadAllocatedBytes(me) - start;
        long sum = busy(x);
        long called = meter.getThreadAllocatedBytes(me) - start - made;
        System.out.println("bytes of an object: " + made + ", of " + CALLS + " calls: " + called + " (" + sum + ")");
        Check.yes("an object is small", made < ONE_OBJECT);
        Check.yes("calls take no room", called < ALL_CALLS);
        Check.end("RoomTest");
    }

    private static long busy(SpokenTree x) {
        for (int n = 0; n < 8; n++) {
            x.type(65 + n);
        }
        x.set(0, 3, 2);
        for (int node = 1; node < 24; node++) {
            x.create(node % 5 == 1 ? 0 : node - 1, 0, node % 5 == 1 ? 0 : 5);
            x.setLabel(node);
        }
        long sum = 0;
        for (int n = 60; n < CALLS; n++) {
            sum += n % 4 == 0 ? x.checksum() : n % 4 == 1 ? x.step(false) : n % 4 == 2 ? x.undo() : x.length(0, 3);
        }
        return sum;
    }
}
