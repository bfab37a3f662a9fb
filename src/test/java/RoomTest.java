import java.lang.management.ManagementFactory;

/** All calls of a run live in one room: beyond new objects and routines no call may need any. */
public final class RoomTest {
    public static void main(String[] args) {
        com.sun.management.ThreadMXBean bean =
                (com.sun.management.ThreadMXBean) ManagementFactory.getThreadMXBean();
        if (!bean.isThreadAllocatedMemorySupported()) {
            Check.due("nothing to measure", 0, 0);
            Check.end("RoomTest");
            return;
        }
        long id = Thread.currentThread().getId();
        // once ahead: the loading of classes takes room, too
        full();
        long before = bean.getThreadAllocatedBytes(id);
        CounterPlacer x = full();
        long made = bean.getThreadAllocatedBytes(id);
        // some 10,000 elements, of eight bytes at the most
        Check.due("a full object is small: " + (made - before) + " bytes", made - before < 120000, true);
        fill(x);
        useAll(x);
        long warm = bean.getThreadAllocatedBytes(id);
        long sum = 0;
        for (int i = 0; i < 500; i++) {
            sum += useAll(x);
        }
        long used = bean.getThreadAllocatedBytes(id) - warm;
        Check.due("answers came", sum != 0, true);
        Check.due("calls need no room, but " + used + " bytes were taken", used < 4096, true);
        Check.end("RoomTest");
    }

    private static CounterPlacer full() {
        CounterPlacer x = new CounterPlacer();
        for (int r = 0; r < 8; r++) {
            x.routine();
        }
        return x;
    }

    private static void fill(CounterPlacer x) {
        for (int b = 0; b < 19; b++) {
            x.block(0, b == 5 ? 2 : 1, 0);
        }
        x.block(0, 3, 0);
        for (int b = 0; b < 19; b++) {
            x.edge(0, b, b + 1, b, false);
            if (b != 5) {
                x.edge(0, b, b / 2, 3, true);
            }
        }
        for (int e = 0; e < 37; e++) {
            x.blur(0, e, e * 7919 % 1000);
        }
    }

    private static long useAll(CounterPlacer x) {
        long sum = x.finish(0);
        sum += x.begin(0) ? 1 : 0;
        sum += x.go(100, 0x01010000);
        sum += x.run(0) + x.run(4);
        sum += x.solve(0, 3) + x.told(0, 3) + x.table(0, 0, 0);
        sum += x.ring(0, 36, 0) + x.way(0, 5, 2) + x.along(0, 5, 2);
        sum += x.look(0, 5) + x.ofEdge(0, 4, 9) + x.ofBlock(0, 4, 6);
        sum += x.guess(0, 1, 5) ? 1 : 0;
        sum += x.blur(0, 1, 5) ? 1 : 0;
        sum += x.mend(0);
        sum += x.routine() + x.block(0, 0, 0) + x.edge(0, 0, 0, 0, false);
        sum += x.plan(0);
        return sum;
    }
}
