import com.sun.management.ThreadMXBean;
import java.lang.management.ManagementFactory;

/** All rows are made in the constructor: no call after it may take room. */
public final class RoomTest {
    private static final ThreadMXBean THREADS =
        (ThreadMXBean) ManagementFactory.getThreadMXBean();

    private RoomTest() {
    }

    public static void main(String[] args) {
        // The first run loads what the machine itself needs.
        calls(new CubeMin(), 3);
        THREADS.getCurrentThreadAllocatedBytes();
        for (int n = 1; n <= 8; n++) {
            CubeMin x = new CubeMin();
            long before = THREADS.getCurrentThreadAllocatedBytes();
            int answers = calls(x, n);
            long after = THREADS.getCurrentThreadAllocatedBytes();
            Check.due("bytes that the calls took, n = " + n, after - before, 0);
            Check.due("the calls did something, n = " + n, answers != 0, true);
        }
        Check.end();
    }

    private static int calls(CubeMin x, int n) {
        int sum = x.start(n) ? 1 : 0;
        for (int k = 0; k < 25; k++) {
            int cube = k * 2657 + 89 & Edges.lastCube(n);
            sum += x.on(cube) ? 1 : 0;
            sum += x.dc(cube ^ k) ? 1 : 0;
            sum += k % 5 == 0 ? x.minimize() : 0;
        }
        sum += x.minimize() + x.inputs() + x.kind(n) + x.widen(n);
        for (int list = -1; list <= 3; list++) {
            sum += x.size(list) + x.cube(list, 0) + x.literals(list) + x.missing(list);
            sum += x.holds(list, n) ? 1 : 0;
            sum += x.tautology(list) ? 1 : 0;
            sum += x.same(list, 2) ? 1 : 0;
            sum += x.prime(list, 0) ? 1 : 0;
        }
        return sum;
    }
}
