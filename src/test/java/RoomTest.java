import com.sun.management.ThreadMXBean;
import java.lang.management.ManagementFactory;

/**
 * All calls of one run live in one room, and nothing of it is given back: the dearest runs of 512
 * calls may take a small piece of it only. Room is measured in bytes, an element being four or so.
 */
public final class RoomTest {
    private static final int CALLS = 512;
    private static final long MOST_BYTES = 1_000_000;

    private static final ThreadMXBean MEMORY = (ThreadMXBean) ManagementFactory.getThreadMXBean();
    private static int wrong = 0;
    private static long sum = 0;

    /** Eight parts that send and print as much as rules can, on two lines. */
    private static WarpYard fullYard() {
        WarpYard y = new WarpYard();
        for (int p = 0; p < 8; p++) {
            y.part(p % 2);
            for (int i = 0; i < 4; i++) {
                y.rule(p, 2, 0, p + i, 1 + i);
                y.rule(p, 5, 0, 0, 0);
            }
        }
        for (int i = 0; i < 8; i++) y.start(i, 1 + i, i);
        for (int i = 0; i < 20; i++) {
            y.run(i % 2, 9);
            if (i % 3 == 0) y.deliverAll();
        }
        return y;
    }

    private static int call(WarpYard y, int kind, int i) {
        switch (kind) {
            case 0: return y.same();
            case 1: return y.settled(i % 8, 0);
            case 2: return y.out(i, 0) + y.printed(i);
            case 3: return y.count(5) + y.count(6);
            case 4: return y.run(i % 2, 200);
            case 5: return y.deliverAll() + y.move(i % 8, i % 3);
            default: return y.failed(0) + y.floor(0) + y.told(i % 8, 4) + y.event(i % 400, 5);
        }
    }

    /** The bytes of a new object, of what fills it, and of calls of one kind on it. */
    private static void measure(int kind) {
        long thread = Thread.currentThread().getId();
        long before = MEMORY.getThreadAllocatedBytes(thread);
        WarpYard y = fullYard();
        for (int i = 0; i < CALLS; i++) sum += call(y, kind, i);
        long bytes = MEMORY.getThreadAllocatedBytes(thread) - before;
        if (bytes > MOST_BYTES) {
            wrong++;
            System.out.println("calls of kind " + kind + " took " + bytes + " bytes");
        }
    }

    public static void main(String[] args) {
        measure(0);
        for (int kind = 0; kind < 7; kind++) measure(kind);
        System.out.println(wrong == 0 ? "there is room enough" : wrong + " runs take too much room");
        if (wrong != 0) System.exit(1);
    }
}
