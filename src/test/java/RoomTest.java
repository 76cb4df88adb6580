import com.sun.management.ThreadMXBean;
import java.lang.management.ManagementFactory;

/** All rows are made in the constructor: no call after it may take room. */
public final class RoomTest {
    private RoomTest() {
    }

    public static void main(String[] args) {
        ThreadMXBean threads = (ThreadMXBean) ManagementFactory.getThreadMXBean();
        // The first run loads what the machine itself needs.
        calls(new CubeMin());
        threads.getCurrentThreadAllocatedBytes();
        CubeMin x = new CubeMin();
        long before = threads.getCurrentThreadAllocatedBytes();
        int answers = calls(x);
        long after = threads.getCurrentThreadAllocatedBytes();
        Check.due("bytes that the calls took", after - before, 0);
        Check.due("the calls did something", answers != 0, true);
        Check.end();
    }

    private static int calls(CubeMin x) {
        int sum = 0;
        for (int n = 1; n <= 8; n++) {
            sum += x.start(n) ? 1 : 0;
            for (int k = 0; k < 25; k++) {
                int cube = k * 2657 + 89 & (1 << 2 * n) - 1;
                sum += x.on(cube) ? 1 : 0;
                sum += k % 5 == 0 && x.dc(cube ^ k) ? 1 : 0;
            }
            sum += x.minimize() + x.inputs() + x.kind(n) + x.widen(n);
            for (int list = -1; list <= 3; list++) {
                sum += x.size(list) + x.cube(list, 0) + x.literals(list) + x.missing(list);
                sum += x.holds(list, n) ? 1 : 0;
                sum += x.tautology(list) ? 1 : 0;
                sum += x.same(list, 2) ? 1 : 0;
                sum += x.prime(list, 0) ? 1 : 0;
            }
        }
        return sum;
    }
}
