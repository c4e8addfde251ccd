import java.lang.management.ManagementFactory;

/** Calls make no objects: all that one object needs is made with it, so that a run stays in its room. */
public final class RoomTest {
    private static final int CALLS = 480;
    private static final long MOST_BYTES_MADE = 60_000L;
    private static final long MOST_BYTES_CALLED = 20_000L;

    public static void main(String[] args) {
        used();
        long start = allocated();
        MembraneRounds x = new MembraneRounds();
        long made = allocated() - start;
        setUp(x);
        start = allocated();
        long sum = callAll(x);
        long called = allocated() - start;
        System.out.println("a new object takes " + made + " bytes, its calls " + called + " (sum " + sum + ")");
        boolean fine = made <= MOST_BYTES_MADE && called <= MOST_BYTES_CALLED;
        System.exit(fine ? 0 : 1);
    }

    /** Loads what the virtual machine loads at first use, so that it is not counted. */
    private static void used() {
        MembraneRounds x = new MembraneRounds();
        setUp(x);
        callAll(x);
        allocated();
    }

    private static long allocated() {
        java.lang.management.ThreadMXBean bean = ManagementFactory.getThreadMXBean();
        return ((com.sun.management.ThreadMXBean) bean).getCurrentThreadAllocatedBytes();
    }

    /** Several membranes and rules with many choices, none of which halts. */
    private static void setUp(MembraneRounds x) {
        for (int m = 1; m < 4; m++) {
            x.membrane(0, 1);
            x.put(m, 3);
            x.put(m, 3);
            x.put(m, 3);
        }
        x.rule(1, 1, 1, 0);
        x.rule(1, 1, 1, 4);
        x.rule(0, 4, 0, 16);
        x.rule(0, 1, 64, 0);
    }

    private static long callAll(MembraneRounds x) {
        long sum = 0;
        for (int i = 0; i < CALLS / 4; i++) {
            sum += x.outcomes(i % 4);
            sum += x.choices(1);
            sum += x.written(i);
            sum += x.uses(i % 4, 0);
        }
        return sum;
    }
}
