import com.sun.management.ThreadMXBean;
import java.lang.management.ManagementFactory;

/** All calls of one run live in one room: calls on an object that has been made leave nothing behind in it. */
public final class RoomTest {
    private static final Check CHECK = new Check();
    /** What measuring itself may take. */
    private static final long LITTLE = 2000;

    public static void main(String[] args) {
        java.lang.management.ThreadMXBean bean = ManagementFactory.getThreadMXBean();
        if (!(bean instanceof ThreadMXBean measure) || !measure.isThreadAllocatedMemorySupported()) {
            System.out.println("RoomTest: this machine does not tell what is made");
            return;
        }
        WovenRoads x = Check.landOf("g5 4;t0;t4;t15;t19;h7 3;");
        Check.addBolt(x, 0, "111222");
        Check.addBolt(x, 19, "3330001");
        Check.type(x, "g5 4;t0;t4;t15;t19;h7 3;x");
        callAll(x);
        long before = measure.getThreadAllocatedBytes(Thread.currentThread().getId());
        long answers = 0;
        for (int i = 0; i < 20; i++) {
            answers += callAll(x);
        }
        long made = measure.getThreadAllocatedBytes(Thread.currentThread().getId()) - before;
        CHECK.holds("bytes made by some 600 calls: " + made + " (" + answers + ")", made < LITTLE);
        CHECK.finish("RoomTest");
    }

    private static long callAll(WovenRoads x) {
        long sum = x.type(32) + x.land() + x.height(1) + x.town(1) + x.bolt(0, 3) + x.card(0, 1) + x.road(0, 1);
        for (int what = 0; what < 7; what++) {
            sum += x.now(what);
        }
        sum += x.begins(3) + x.weaves(0, 1) + x.turnAbout(0) + x.rain() + x.undo();
        sum += x.joined(0, 19) + x.toWeave() + x.way(0, 19) + x.darners(7) + x.odds(3, 6, 0);
        sum += x.wrong(0, 5, 0) + x.look(0, 3) + x.keep(0) + x.back(0) + x.count(0) + x.trace();
        for (int kind = 0; kind < 6; kind++) {
            sum += x.rate(kind, 1);
        }
        return sum;
    }
}
