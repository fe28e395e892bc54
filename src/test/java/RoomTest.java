import com.sun.management.ThreadMXBean;
import java.lang.management.ManagementFactory;

/** All calls live in one room: an object takes its rows when it is made, and its calls take none. */
public final class RoomTest {
    /** 12,000 elements; some 600 objects with so many fit into the room. */
    private static final long MOST_BYTES_OF_AN_OBJECT = 4 * 12_000;

    private static long sum = 0;

    public static void main(String[] args) {
        ThreadMXBean bean = (ThreadMXBean) ManagementFactory.getThreadMXBean();
        MatchingGraph warm = Check.complete(12);
        use(warm);
        long start = bean.getCurrentThreadAllocatedBytes();
        MatchingGraph x = new MatchingGraph();
        long made = bean.getCurrentThreadAllocatedBytes();
        use(x);
        long used = bean.getCurrentThreadAllocatedBytes();
        Check.due("an object takes at most 12,000 elements", made - start <= MOST_BYTES_OF_AN_OBJECT, true);
        Check.due("its calls take nothing", used - made <= 512, true);
        System.out.println("an object takes " + (made - start) + " bytes, its calls " + (used - made));
        Check.due("the calls answered", sum != 0, true);
        Check.end("RoomTest");
    }

    private static void use(MatchingGraph x) {
        x.begin(12);
        for (int node = 0; node < 11; node++) {
            x.append('a' + node);
            x.append('b' + node);
            x.append('!');
            sum += x.firstError() + x.load() + x.digest();
        }
        for (int node = 0; node < 10; node++) {
            x.setEdge(node, node + 2, true);
            x.unmatch(node / 2 * 2);
            sum += x.augment(node / 2 * 2) + x.undo() + x.maximize() + x.takeFirst() + x.digest();
            sum += x.ifChanged(0, node + 1) + x.proof() + x.components(1, true) + (long) x.meanUse();
            x.undo();
        }
    }
}
