import java.lang.management.ManagementFactory;

/** Calls make no objects once the object stands, but for the exceptions that they throw; an object stays small. */
public final class RoomTest {
    private static final com.sun.management.ThreadMXBean THREADS =
            (com.sun.management.ThreadMXBean) ManagementFactory.getThreadMXBean();

    public static void main(String[] args) {
        DoubleTurns x = new DoubleTurns();
        rounds(x, 2);
        long before = THREADS.getThreadAllocatedBytes(Thread.currentThread().getId());
        long sum = rounds(x, 200);
        long made = THREADS.getThreadAllocatedBytes(Thread.currentThread().getId()) - before;
        Check.due("rounds that answer", sum != 0, true);
        Check.due("bytes made by 200 rounds stay below 1000", made < 1000, true);
        before = THREADS.getThreadAllocatedBytes(Thread.currentThread().getId());
        x = new DoubleTurns();
        made = THREADS.getThreadAllocatedBytes(Thread.currentThread().getId()) - before;
        Check.due("bytes of one object stay below 120000 and are " + made, made < 120000, true);
        Check.due("it stands", x.told(2), 1);
        Check.end("RoomTest");
    }

    private static long rounds(DoubleTurns x, int rounds) {
        long sum = 0;
        for (int i = 0; i < rounds; i++) {
            // "root", " 2 ;", "turn", " 4 0", " 0 0", then " 0 0 0 0;"
            sum += x.feed(0x726f6f74, 0x2035203b, 0x7475726e, 0x20342030, 0x20302030);
            sum += x.feed(0x20302030, 0x20302030, 0x3b000000, 0, 0);
            sum += x.text(29);
            sum += x.add(2, 0, 2, 0, 2, 0, 2, 0);
            sum += x.add(-1, 1, 2, 0, 1, 1, 0, 0);
            sum += asks(x);
            sum += x.drop(0);
            sum += asks(x);
            sum += x.undo();
        }
        return sum;
    }

    private static long asks(DoubleTurns x) {
        long sum = x.print() + x.fault() + x.why(1) + x.status(0) + x.makers(0) + x.axes(3);
        for (int what = 0; what <= 15; what++) {
            sum += x.told(what);
        }
        sum += x.element(1, 8) + x.find(1, 1, 1, 1, 1, 1, 1, 1) + x.product(1, 1) + x.power(1, -5) + x.of(1, 4);
        sum += x.couples(1, 1, 0) + x.degree(1) + x.value(1, 1) + x.often(1, 1, 0) + x.opposite(1) + x.ways(0, 1);
        sum += x.far(0, 1) + x.withWays(1) + x.invariants(200) + x.inRow(0, 200) + x.row(0, 100) + x.made(1, 1, 0);
        return sum + (x.isMade(1, 1, 0) ? 1 : 0) + (x.isKept(1, 1) ? 1 : 0) + x.ofOrder(4, 1);
    }
}
