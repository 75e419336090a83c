import java.lang.management.ManagementFactory;

/** What 512 calls make is little: the rows are made once and used again. */
public final class RoomTest {
    private static final Check CHECK = new Check();
    private static final com.sun.management.ThreadMXBean METER =
            (com.sun.management.ThreadMXBean) ManagementFactory.getThreadMXBean();

    public static void main(String[] args) {
        made();
        made();
        long before = METER.getCurrentThreadAllocatedBytes();
        new PairBench();
        long object = METER.getCurrentThreadAllocatedBytes() - before;
        CHECK.due("a new object takes " + object + " bytes", object < 20_000, true);
        long run = made();
        // 65,536 sets of taken nodes, once as a whole and once on the way there.
        CHECK.due("a run takes " + run + " bytes", run < 1_200_000, true);
        CHECK.end("RoomTest");
    }

    /** The bytes of a run that changes the graph and the things before each of the dearest questions. */
    private static long made() {
        long before = METER.getCurrentThreadAllocatedBytes();
        PairBench bench = new PairBench();
        for (int i = 0; i < 16; i++) {
            bench.node(0);
            bench.node(1);
            bench.thing();
            bench.pairings();
        }
        for (int i = 0; i < 75; i++) {
            bench.edge(i % 16, i * 7 % 16, true);
            bench.tell(i % 16, i * 5 % 16);
            bench.pairings();
            bench.about(i % 16, i % 5);
            bench.leads(0, 1);
        }
        return METER.getCurrentThreadAllocatedBytes() - before;
    }
}
