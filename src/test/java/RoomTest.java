import com.sun.management.ThreadMXBean;
import java.lang.management.ManagementFactory;

/** A run's objects live in one room: the constructor's rows are small, and no later call makes any. */
public final class RoomTest {
    private static final long MOST_BYTES_OF_AN_OBJECT = 100_000;
    /** The JVM may make a little of its own in between. */
    private static final long MOST_BYTES_OF_ALL_CALLS = 1_000;
    private static final ThreadMXBean THREADS = (ThreadMXBean) ManagementFactory.getThreadMXBean();

    public static void main(String[] args) {
        new PhaseBook(100, 50);
        useAllCalls(new PhaseBook(100, 50));
        long start = bytesMade();
        long measuring = bytesMade() - start;
        start = bytesMade();
        PhaseBook book = new PhaseBook(100, 50);
        long ofConstructor = bytesMade() - start - measuring;
        start = bytesMade();
        useAllCalls(book);
        long ofCalls = bytesMade() - start - measuring;
        Check.due("the constructor makes little: " + ofConstructor, ofConstructor <= MOST_BYTES_OF_AN_OBJECT, true);
        Check.due("no call makes an object: " + ofCalls, ofCalls <= MOST_BYTES_OF_ALL_CALLS, true);
        Check.end("RoomTest");
    }

    private static long bytesMade() {
        return THREADS.getThreadAllocatedBytes(Thread.currentThread().getId());
    }

    private static void useAllCalls(PhaseBook x) {
        for (int round = 0; round < 18; round++) {
            x.phase(1);
            x.extra(0, 2);
            x.order(0, x.session(0, 0), 11, 20, 104);
            x.order(1, x.session(1, 0), 8, 5, 0);
            x.order(2, x.session(2, 0), 0, 9, 105);
            x.replace(2, x.session(2, 0), x.save() - 1, 12, 106);
            x.market(4);
            x.phase(2);
            x.order(3, x.session(3, 0), 6, 4, 104);
            x.order(3, x.session(3, 0), 2, 40, 104);
            x.cancel(2, x.session(2, 0), 1);
            x.crash();
            x.take(x.next());
            x.refresh();
            x.about(0, 5);
            x.report(0, 0, 1);
            x.phase(3);
            x.phase(0);
        }
    }
}
