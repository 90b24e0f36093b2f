import java.lang.management.ManagementFactory;

/** What calls make is counted over a whole run: after an object is made, its calls make nothing. */
public final class RoomTest {
    private static final int CALLS = 512;
    private static final int BYTES_FOR_ALL = 64 * 1024;

    private RoomTest() {
    }

    private static long allocated() {
        com.sun.management.ThreadMXBean bean = (com.sun.management.ThreadMXBean) ManagementFactory.getThreadMXBean();
        return bean.getThreadAllocatedBytes(Thread.currentThread().getId());
    }

    private static long dearCalls(FairRates x) {
        long sum = 0;
        for (int i = 0; i < CALLS / 16; i++) {
            sum += x.settling(0) + x.swings(0, 60, 0) + x.peak(3, 60) + x.storm(i, 40, 0);
            sum += x.enough(3) + x.tight() + x.weightFor(1, 99) + x.would(8, 1, 0, 9);
            sum += x.rounds(30) + x.count(5) + x.pass(3, -1) + x.even(0) + x.ranked(2);
            sum += x.keep(i % 2) && x.again(i % 2) ? 1 : 0;
            sum += x.fullest(1);
        }
        return sum;
    }

    public static void main(String[] args) {
        FairRates x = Nets.restless();
        dearCalls(x);
        long before = allocated();
        long sum = dearCalls(x);
        long made = allocated() - before;
        Due.yes("calls make nothing (" + made + " bytes, " + sum + ")", made < BYTES_FOR_ALL);
        before = allocated();
        FairRates y = new FairRates();
        made = allocated() - before;
        Due.yes("an object is small (" + made + " bytes)", made < 32 * 1024 && y.count(0) == 0);
        Due.end();
    }
}
