import java.lang.management.ManagementFactory;

/** All calls of a run live in one room: no call makes anything, and a new object is small. */
public final class RoomTest {
    private static final Due T = new Due();
    private static final com.sun.management.ThreadMXBean THREADS =
            (com.sun.management.ThreadMXBean) ManagementFactory.getThreadMXBean();

    public static void main(String[] args) {
        BackBay warm = new BackBay();
        callAll(warm);
        used();
        long ahead = used();
        BackBay x = new BackBay();
        long made = used() - ahead;
        // Some 5000 fields and elements, most of them of 4 bytes, and some 100 objects.
        T.holds("a new object takes " + made + " bytes", made < 40000);
        long before = used();
        callAll(x);
        long calls = used() - before;
        T.holds("calls take " + calls + " bytes", calls < 1000);
        T.end();
    }

    private static long used() {
        return THREADS.getThreadAllocatedBytes(Thread.currentThread().getId());
    }

    private static long callAll(BackBay x) {
        long sum = x.row(0, 2, 10) + x.set(0, 1, 5) + x.copy(0, 0, 0, 1, 9);
        sum += x.bay(10) + x.start(0, 0) + x.strip(3, 4) + x.edge(0, 7);
        // "cell max + c k l;"
        sum += x.feed(0x63656c6c206d6178L, 8) + x.feed(0x202b2063206b206cL, 8) + x.feed(0x3b, 1);
        sum += x.stencils() + x.fault() + x.cell(9, 40) + x.gauge(4, 20, 3, 90) + x.out(0, 0);
        sum += x.wish(0) + x.wish(1) + x.wish(2) + x.slope(0, 4) + x.slope(1, 4) + x.slope(2, 1);
        sum += x.push(4, 2) + x.again(40, 6, 0) + x.again(40, 6, 1) + x.move() + x.rest();
        sum += x.keep() + x.keep() + x.lay(1) + x.apart(0, 1) + x.kind(0) + x.as(0, 4) + x.ask(0, 0) + x.trace(0);
        sum += x.count(0) + x.count(5) + x.status() + x.drop(0) + x.stencils() + x.set(0, 0, 0);
        return sum;
    }
}
