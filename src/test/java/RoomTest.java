import java.lang.management.ManagementFactory;

/** All calls of one run live in one room: 7.3 million fields and elements in all, so the rows are used again. */
public final class RoomTest {
    private static final Check CHECK = new Check();
    private static final com.sun.management.ThreadMXBean METER =
            (com.sun.management.ThreadMXBean) ManagementFactory.getThreadMXBean();
    /** The bytes of as many longs. */
    private static final long ROOM = 8 * 7_300_000L;

    public static void main(String[] args) {
        long before = METER.getCurrentThreadAllocatedBytes();
        countAgainAndAgain();
        room("pairings() again and again", before);
        before = METER.getCurrentThreadAllocatedBytes();
        askAboutAll();
        room("questions of all kinds", before);
        CHECK.end("RoomTest");
    }

    private static void room(String run, long before) {
        long made = METER.getCurrentThreadAllocatedBytes() - before;
        CHECK.due(run + ": " + made + " bytes are in the room", made <= ROOM, true);
    }

    /** 65,536 sets of right nodes can be taken in a ring of 16 and 16, and it is counted anew 224 times. */
    private static void countAgainAndAgain() {
        PairBench bench = Build.lonePairs(16);
        for (int i = 0; i < 16; i++) {
            bench.edge(i, (i + 1) % 16, true);
        }
        for (int call = 64; call < 512; call += 2) {
            bench.edge(0, 8, call % 4 == 0);
            CHECK.due("pairings()", bench.pairings(), call % 4 == 0 ? 3 : 2);
        }
    }

    private static void askAboutAll() {
        PairBench bench = new PairBench();
        for (int i = 0; i < 16; i++) {
            bench.node(0);
            bench.node(1);
            bench.thing();
            bench.pairings();
        }
        for (int i = 0; i < 74; i++) {
            bench.edge(i % 16, i * 7 % 16, true);
            bench.tell(i % 16, i * 5 % 16);
            bench.pairings();
            bench.about(i % 16, i % 5);
            bench.leads(0, 1);
            bench.edgeIs(i % 16, i * 7 % 16);
        }
    }
}
