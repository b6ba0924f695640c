import com.sun.management.ThreadMXBean;
import java.lang.management.ManagementFactory;

/** The room that one run takes: 512 of the dearest calls on a full frame. */
public final class RoomTest {
    private static final int CALLS = 512;
    private static final long MOST_BYTES = 400_000;

    private RoomTest() {
    }

    public static void main(String[] args) {
        run();
        long least = Long.MAX_VALUE;
        for (int i = 0; i < 5; i++) {
            ThreadMXBean threads = (ThreadMXBean) ManagementFactory.getThreadMXBean();
            long before = threads.getCurrentThreadAllocatedBytes();
            run();
            least = Math.min(least, threads.getCurrentThreadAllocatedBytes() - before);
        }
        System.out.println("bytes of one run: " + least);
        Due.holds("a run keeps to its room", least < MOST_BYTES);
        Due.end();
    }

    private static void run() {
        RodBench x = new RodBench();
        int calls = 0;
        for (int i = 0; i < 6; i++) {
            x.pin(i, i * i % 6);
            calls++;
        }
        for (int a = 0; a < 6; a++) {
            for (int b = a + 1; b < 6; b++) {
                x.rod(a < 3 ? 3 : 0, a, b, a < 3 ? a + b : 0);
                calls++;
            }
        }
        for (; calls < CALLS; calls++) {
            switch (calls % 4) {
                case 0: x.put(calls % 8, calls % 3 == 0); break;
                case 1: x.load(calls % 6, calls % 20, 3); break;
                case 2: x.tray(calls % 6, 2 + calls % 3, 0); break;
                default: x.move(calls % 6, calls % 5, calls % 4); break;
            }
        }
    }
}
