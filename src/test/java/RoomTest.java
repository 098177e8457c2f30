import java.lang.management.ManagementFactory;

/** All calls of one run live in one room: a table is small, and its dearest calls make nothing in it. */
public final class RoomTest {
    private static final int TABLES = 1000;
    /** With those that make the table ready, fewer than 512. */
    private static final int CALLS = 448;

    public static void main(String[] args) {
        com.sun.management.ThreadMXBean bean = (com.sun.management.ThreadMXBean) ManagementFactory.getThreadMXBean();
        long self = Thread.currentThread().getId();
        dearCalls(dear());
        long start = bean.getThreadAllocatedBytes(self);
        CrossTable[] tables = new CrossTable[TABLES];
        for (int i = 0; i < TABLES; i++) {
            tables[i] = new CrossTable();
        }
        long made = (bean.getThreadAllocatedBytes(self) - start) / TABLES;
        Due.holds("a table has some kilobytes, not " + made, made < 6000);
        CrossTable x = dear();
        long before = bean.getThreadAllocatedBytes(self);
        dearCalls(x);
        long calls = bean.getThreadAllocatedBytes(self) - before;
        Due.holds("dear calls make next to nothing, not " + calls, calls < 100_000);
        Due.end("RoomTest");
    }

    private static CrossTable dear() {
        CrossTable x = Due.planned("bvkinds.41");
        for (int i = 0; i < 15; i++) {
            x.add(i % 4, i % 5, 6 * i);
        }
        for (int i = 0; i < 6; i++) {
            x.see(99, i, 0);
        }
        return x;
    }

    private static void dearCalls(CrossTable x) {
        int sum = 0;
        for (int i = 0; i < CALLS / 16; i++) {
            sum += x.hidden(i % 2) + x.share(i % 5, true) + x.lost(3, 4, false) + x.drawn(20) + x.best(1);
            sum += x.would(1, 1, 1, 1) + x.judge(4, 1119200540006001L) + x.fault() + x.plan();
            sum += x.change(3, i) + x.drop(2) + x.undo() + x.keep(0) + x.keep(1) + x.again(1) + x.count(4);
        }
        Due.holds("calls answer", sum != 0);
    }
}
