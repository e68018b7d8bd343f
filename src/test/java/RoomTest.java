import java.lang.management.ManagementFactory;

/** The dearest calls, 512 of them, make next to nothing: all calls of a run share one small room. */
public final class RoomTest {
    private static final long MOST_BYTES = 20000;
    private static final Checks C = new Checks("RoomTest");

    public static void main(String[] args) {
        com.sun.management.ThreadMXBean bean = (com.sun.management.ThreadMXBean) ManagementFactory.getThreadMXBean();
        long me = Thread.currentThread().getId();
        long sum = dearRun();
        long before = bean.getThreadAllocatedBytes(me);
        sum -= dearRun();
        long made = bean.getThreadAllocatedBytes(me) - before;
        C.due("the same calls answer the same", sum, 0);
        C.holds("no more than " + MOST_BYTES + " bytes are made (" + made + ")", made <= MOST_BYTES);
        C.end();
    }

    private static long dearRun() {
        CornWay x = new CornWay();
        long sum = x.field(4, 4);
        for (int n = 0; n < 30; n++) {
            sum += x.begin(n % 12);
            sum += x.spill(n % 10);
            sum += x.longest(3);
            sum += x.best(3);
            sum += x.all(5);
            sum += x.last();
            sum += x.where(0);
            sum += x.storm(20, 0);
            sum += x.goesOn(12);
            sum += x.drawn(n, 0);
            sum += x.image(n % 2);
            sum += x.restore(n % 2);
            sum += x.say(n % 2 == 0 ? 'e' : 'w');
            sum += x.way(3);
            sum += x.wipe();
        }
        sum += x.field(3, 4);
        for (int n = 0; n < 20; n++) {
            sum += x.begin(n % 12);
            sum += x.two();
            sum += x.game();
        }
        return sum;
    }
}
