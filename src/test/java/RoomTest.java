import java.lang.management.ManagementFactory;

/** A run lives in one room: what an object holds is made with it, and no call makes anything more. */
public final class RoomTest {
    private static int sum;

    public static void main(String[] args) {
        com.sun.management.ThreadMXBean bean = (com.sun.management.ThreadMXBean) ManagementFactory.getThreadMXBean();
        long self = Thread.currentThread().getId();
        CloudDepth warm = new CloudDepth();
        work(warm);
        bean.getThreadAllocatedBytes(self);

        long before = bean.getThreadAllocatedBytes(self);
        CloudDepth x = new CloudDepth();
        long made = bean.getThreadAllocatedBytes(self) - before;
        before = bean.getThreadAllocatedBytes(self);
        for (int i = 0; i < 20; i++) work(x);
        long more = bean.getThreadAllocatedBytes(self) - before;

        System.out.println("bytes with the object: " + made + ", with all calls: " + more);
        if (made > 60_000 || more > 2_000) {
            System.out.println("that is more than due");
            System.exit(1);
        }
    }

    /** Every method once and more, with 12 POINTS and the greatest GRID. */
    private static void work(CloudDepth x) {
        x.feed(0x67726964, 0x2032303b, 0x20202020, 0x20202020, 0x20202020);
        sum += x.read() + x.place();
        for (int i = 0; i < 12; i++) sum += x.add(i * i % 17 - 8, i * 7 % 19 - 9);
        for (int i = -1; i <= 15; i++) {
            sum += x.count(i) + x.point(3, i) + x.turned(0, 1, 2, i) + x.sides(0, 1, i) + x.corner(i) + x.layer(i) + x.edges(i);
            sum += x.halving(i) + x.cutOff(i) + x.isCutOff(i) + x.depth(i, 0) + x.deepest(i) + x.region(i, 0) + x.triangles(i, i);
            sum += x.order(i, 3) + x.crossing(i, 0) + x.crossing(3, i) + x.bends(i) + x.fit(i, 1) + x.best(i) + x.halvingBoth(63, i);
            sum += x.four(0, 1, 2, i) + x.keeping(i);
        }
        sum += x.splits();
        x.goes(3);
        for (int what = 0; what < 3; what++) sum += x.fresh(1, 1, what);
        x.hold(1);
        x.turn(true);
        x.turn(false);
        x.move(0, 40, 40);
        x.undo();
        x.restore(1);
        x.feed(1, 2, 3, 4, 5);
        sum += x.read() + x.back(0);
    }
}
