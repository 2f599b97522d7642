import com.sun.management.ThreadMXBean;
import java.lang.management.ManagementFactory;

/** The dearest runs of 512 calls stay far within the room that all calls of a run share. */
public final class RoomTest {
    private static final ThreadMXBean THREADS = (ThreadMXBean) ManagementFactory.getThreadMXBean();
    private static final long MOST_BYTES = 2000000;
    private static final int MOST_CALLS = 512;

    public static void main(String[] args) {
        for (int round = 0; round < 2; round++) {
            within("masters and mounts of the greatest tree", RoomTest::mastersAndMounts);
            within("an image that grows with every node", RoomTest::growing);
            within("refused nodes", RoomTest::refused);
        }
        Check.finish();
    }

    private static void within(String what, Runnable run) {
        long before = THREADS.getCurrentThreadAllocatedBytes();
        run.run();
        long bytes = THREADS.getCurrentThreadAllocatedBytes() - before;
        Check.yes(what + " made " + bytes + " bytes", bytes < MOST_BYTES);
    }

    private static int addFile(DiscMaker x, int n) {
        x.feed(0x66 << 24 | (n / 10 + '0') << 16 | (n % 10 + '0') << 8, 0, 0, 0, 0);
        x.end(3);
        return x.file(0, 4100, n);
    }

    private static void mastersAndMounts() {
        DiscMaker x = new DiscMaker();
        int calls = 0;
        for (int n = 1; n < 40; n++, calls += 3) {
            addFile(x, n);
        }
        for (; calls < MOST_CALLS - 1; calls += 2) {
            x.master();
            x.mount(calls / 2 % 3);
        }
    }

    private static void growing() {
        DiscMaker x = new DiscMaker();
        for (int n = 1; n < 40; n++) {
            addFile(x, n);
            x.master();
            for (int view = 0; view < 3; view++) {
                x.mount(view);
            }
            x.cut(0);
        }
    }

    private static void refused() {
        DiscMaker x = new DiscMaker();
        for (int calls = 0; calls < MOST_CALLS - 2; calls += 3) {
            x.feed(0x61616161, 0x00616161, 0x61616161, 0x61616161, 0x61616161);
            x.end(20);
            x.link(0);
        }
    }
}
