import java.lang.management.ManagementFactory;

/** The dearest calls, 512 of each, stay far below the room of some 600,000 objects and 7.3 million elements. */
public final class RoomTest {
    private static final long MOST_BYTES = 1 << 20;
    private static final int CALLS = 512;
    private static final Check CHECK = new Check("RoomTest");

    public static void main(String[] args) {
        repeatedTimers(ledByAll());
        repeatedTimers(ledByAll());
        promises();
        CHECK.end();
    }

    private static long madeSoFar() {
        return ((com.sun.management.ThreadMXBean) ManagementFactory.getThreadMXBean())
                .getThreadAllocatedBytes(Thread.currentThread().getId());
    }

    private static MajorityMap ledByAll() {
        MajorityMap x = Play.ledBy(0);
        Play.perform(x, 0, Play.MEMBERS, 0, 31);
        Play.perform(x, 0, Play.READ, 0, 0);
        Play.perform(x, 0, Play.READ, 0, 0);
        x.timer(0);
        Play.settle(x);
        return x;
    }

    private static void repeatedTimers(MajorityMap x) {
        for (int n = 0; n < 3; n++) {
            x.send(x.ask(Play.ADD, 0, 1), 0);
        }
        Play.dropAll(x);
        CHECK.due("messages of one call", x.timer(0), 12);
        long before = madeSoFar();
        for (int n = 0; n < CALLS; n++) {
            x.timer(0);
        }
        dueSmall("timer", madeSoFar() - before);
    }

    private static void promises() {
        MajorityMap x = new MajorityMap();
        x.timer(0);
        long before = madeSoFar();
        for (int n = 0; n < CALLS / 2; n++) {
            x.copy(0);
            x.deliver(0);
            x.drop(x.waiting() - 1);
        }
        dueSmall("deliver", madeSoFar() - before);
        before = madeSoFar();
        new MajorityMap();
        dueSmall("a new object, times 64", 64 * (madeSoFar() - before));
    }

    private static void dueSmall(String what, long bytes) {
        CHECK.due(what + " made " + bytes + " bytes", bytes > 0 && bytes <= MOST_BYTES, true);
    }
}
