import java.lang.management.ManagementFactory;

/** What 512 calls make, and what an object costs: the room that all calls of a run share is narrow. */
public final class RoomTest {
    private static final Check c = new Check();
    private static final com.sun.management.ThreadMXBean THREADS =
        (com.sun.management.ThreadMXBean) ManagementFactory.getThreadMXBean();
    private static final String TEXT =
        "h30,2,2,1,3;s1,9,5,1,3,2,50,2,1;t10;f5;a7;s1,9,5,1,3,2,50,2,1;t10;f5;a7;s1,9,5,1,3,2,50,2,1;q1;s1,9,5,1,3,2,50,2,1;";

    public static void main(String[] args) {
        dearest(Check.with(TEXT));
        EnoughServers x = Check.with(TEXT);
        long before = made();
        long none = made() - before;
        before = made();
        dearest(x);
        long calls = made() - before - none;
        before = made();
        EnoughServers y = new EnoughServers();
        long object = made() - before - none;
        c.due("bytes that the calls make", (int) calls, 0);
        c.holds("an object is below 100,000 bytes: " + object, object < 100000);
        c.due("it is new", y.count(0), EnoughServers.UNKNOWN);
        c.end("RoomTest");
    }

    private static long made() {
        return THREADS.getThreadAllocatedBytes(Thread.currentThread().getId());
    }

    private static void dearest(EnoughServers x) {
        for (int i = 0; i < 28; i++) {
            x.load(0, 0, i * 7);
            x.load(0, 1, i * 3);
            x.set(1, 2, i % 9);
            x.round();
            x.would(0, 4);
            x.why(1, 2);
            x.forecast(0, 0, 3);
            x.ahead(50, 0);
            x.until(1, 20);
            x.needs(0, 2, 99);
            x.replay(0, 3, 3, 0);
            x.best(0);
            x.undo();
        }
        x.write('h');
        x.house();
    }
}
