import java.lang.management.ManagementFactory;

/** All calls of a run live in one room: what they make is counted, and each dear call must end soon. */
public final class RoomTest {
    private static final int CALLS = 512;
    private static final long MOST_BYTES_MADE = 64 * 1024;

    public static void main(String[] args) {
        // The first run is for the machine's own sake: it makes objects when it meets code anew.
        bytesOfRun();
        long bytes = bytesOfRun();
        System.out.println("a run makes " + bytes + " bytes");
        Check.due("bytes made in a run stay small", bytes < MOST_BYTES_MADE, true);
        Check.finish();
    }

    private static long bytesOfRun() {
        com.sun.management.ThreadMXBean threads = (com.sun.management.ThreadMXBean) ManagementFactory.getThreadMXBean();
        long id = Thread.currentThread().getId();
        long before = threads.getThreadAllocatedBytes(id);
        run();
        return threads.getThreadAllocatedBytes(id) - before;
    }

    private static void run() {
        LiabilityMatcher x = new LiabilityMatcher();
        x.dates(4);
        for (int b = 0; b < 5; b++) {
            x.bond(3, 6, 4, 12);
            x.most(b, 12);
        }
        for (int call = 14; call < CALLS; call += 7) {
            x.pay(1 + call % 4, call % 201);
            x.cost(false);
            x.lots(0);
            x.take();
            x.need(false);
            x.feed(call, call, call, call, call);
            x.tell();
        }
    }
}
