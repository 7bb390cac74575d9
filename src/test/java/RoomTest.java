import com.sun.management.ThreadMXBean;
import java.lang.management.ManagementFactory;

/** What an object and its calls make: all calls of a run live in one room of some 7.3 million elements. */
public final class RoomTest {
    // Ints of four bytes: an object's own rows, and nothing to speak of for the 512 calls after it.
    private static final long MOST_BYTES = 60_000;
    private static final Checks CHECKS = new Checks();
    private static final ThreadMXBean THREADS = (ThreadMXBean) ManagementFactory.getThreadMXBean();

    private RoomTest() {
    }

    public static void main(String[] args) {
        // The first run also pays for classes that are loaded then.
        run();
        long bytes = run();
        CHECKS.due("bytes of a run: " + bytes + ", at most the due ones", bytes <= MOST_BYTES, true);
        CHECKS.end();
    }

    private static long run() {
        long before = THREADS.getThreadAllocatedBytes(Thread.currentThread().getId());
        SharedEndings x = new SharedEndings();
        int calls = 0;
        for (int n = 0; calls < 500; n++) {
            for (int p = 0; p < 7; p++) {
                x.type((char) ('a' + (n >> p & 7)));
            }
            calls += 9;
            use(x, n);
        }
        return THREADS.getThreadAllocatedBytes(Thread.currentThread().getId()) - before;
    }

    private static void use(SharedEndings x, int n) {
        if (x.words() < 30) {
            x.add();
            return;
        }
        switch (n % 5) {
            case 0 -> x.scan();
            case 1 -> x.near(2);
            case 2 -> x.splits();
            case 3 -> x.split();
            default -> x.remove();
        }
    }
}
