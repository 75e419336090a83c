/** Promises 1 to 14 and 19, one after the other: ordinary inputs, the edges that the document names, wrong inputs. */
public final class GraphPromisesTest {
    private static final Check CHECK = new Check();
    private static final int BAD = PairBench.BAD;
    private static final int NO = PairBench.NO;
    private static final int[] FAR = {-1, -2, 50, 51, 64, 1000, Integer.MAX_VALUE, Integer.MIN_VALUE};

    public static void main(String[] args) {
        promise1NewObject();
        promise2Node();
        promise3Edge();
        promise4Count();
        promise4CountOfNothing();
        promise5Has();
        promise6Partner();
        promise6BestBeforeLaterNodes();
        promise7EdgeIs();
        promise8NodeIs();
        promise9Cover();
        promise10Hall();
        promise11Part();
        promise12Block();
        promise13Leads();
        promise14Pairings();
        promise14PairingsAtTheLimit();
        promise19ClearGraph();
        wrongNodesEverywhere();
        CHECK.end("GraphPromisesTest");
    }

    private static int[] partners(PairBench bench, int side) {
        int[] row = new int[bench.count(side)];
        for (int i = 0; i < row.length; i++) {
            row[i] = bench.partner(side, i);
        }
        return row;
    }

    private static int[] parts(PairBench bench, int side) {
        int[] row = new int[bench.count(side)];
        for (int i = 0; i < row.length; i++) {
            row[i] = bench.part(side, i);
        }
        return row;
    }

    private static int[] blocks(PairBench bench, int side) {
        int[] row = new int[bench.count(side)];
        for (int i = 0; i < row.length; i++) {
            row[i] = bench.block(side, i);
        }
        return row;
    }

    private static int[] cover(PairBench bench, int which, int side) {
        int[] row = new int[bench.count(side)];
        for (int i = 0; i < row.length; i++) {
            row[i] = bench.cover(which, side, i);
        }
        return row;
    }

    private static int[] hall(PairBench bench, int which) {
        int[] row = new int[bench.count(0)];
        for (int i = 0; i < row.length; i++) {
            row[i] = bench.hall(which, i);
        }
        return row;
    }

    private static void promise1NewObject() {
        PairBench bench = new PairBench();
        for (int what = 0; what <= 11; what++) {
            CHECK.due("new count(" + what + ")", bench.count(what), 0);
        }
        CHECK.due("new has", bench.has(0, 0), false);
        CHECK.due("new below", bench.below(0, 0), false);
        CHECK.due("new pairings", bench.pairings(), 1);
        CHECK.due("new clearGraph", bench.clearGraph(), 0);
        CHECK.due("new clearThings", bench.clearThings(), 0);
        PairBench other = Build.graph(2, 2, 0, 0);
        other.thing();
        CHECK.due("another object's nodes", bench.count(0) + bench.count(1) + bench.count(9), 0);
    }

    private static void promise2Node() {
        PairBench bench = new PairBench();
        for (int i = 0; i < 50; i++) {
            CHECK.due("node(0)", bench.node(0), i);
        }
        CHECK.due("node(0), the 51st", bench.node(0), PairBench.FULL);
        CHECK.due("count(0)", bench.count(0), 50);
        CHECK.due("count(1)", bench.count(1), 0);
        for (int i = 0; i < 50; i++) {
            CHECK.due("node(1)", bench.node(1), i);
        }
        CHECK.due("node(1), the 51st", bench.node(1), PairBench.FULL);
        CHECK.due("node(2) when full", bench.node(2), BAD);
        PairBench empty = new PairBench();
        for (int side : new int[] {-1, 2, 3, Integer.MAX_VALUE, Integer.MIN_VALUE}) {
            CHECK.due("node(" + side + ")", empty.node(side), BAD);
        }
        CHECK.due("no node by a wrong side", empty.clearGraph(), 0);
        PairBench grown = Build.graph(1, 1, 0, 0);
        CHECK.due("all in part 1", grown.count(6), 2);
        grown.node(0);
        CHECK.due("a left node more is in part 0", grown.part(0, 1), 0);
        grown.node(1);
        CHECK.due("a right node more is in part 2", grown.part(1, 1), 2);
        CHECK.due("it lacks a partner", grown.count(4), 1);
    }

    private static void promise3Edge() {
        PairBench bench = Build.nodes(3, 2);
        CHECK.due("edge not there", bench.edge(2, 1, false), 0);
        CHECK.due("edge new", bench.edge(2, 1, true), 1);
        CHECK.due("edge again", bench.edge(2, 1, true), 0);
        CHECK.due("edges", bench.count(2), 1);
        CHECK.due("edge away", bench.edge(2, 1, false), 1);
        CHECK.due("edge away again", bench.edge(2, 1, false), 0);
        CHECK.due("edges", bench.count(2), 0);
        for (boolean there : new boolean[] {true, false}) {
            CHECK.due("edge(3, 0)", bench.edge(3, 0, there), BAD);
            CHECK.due("edge(0, 2)", bench.edge(0, 2, there), BAD);
            CHECK.due("edge(-1, 0)", bench.edge(-1, 0, there), BAD);
            CHECK.due("edge(0, -1)", bench.edge(0, -1, there), BAD);
        }
        bench.edge(1, 2, true);
        bench.node(1);
        CHECK.due("no edge to a node that came later", bench.has(1, 2), false);
        PairBench wide = Build.nodes(50, 50);
        CHECK.due("edge(49, 49)", wide.edge(49, 49, true), 1);
        CHECK.due("edge(49, 17) is another", wide.edge(49, 17, false), 0);
        CHECK.due("has(49, 49)", wide.has(49, 49), true);
        CHECK.due("partner(1, 49)", wide.partner(1, 49), 49);
    }

    private static void promise4Count() {
        PairBench bench = Build.threeParts();
        bench.node(0);
        bench.thing();
        bench.thing();
        bench.thing();
        bench.tell(0, 1);
        int[] want = {7, 6, 12, 5, 2, 4, 6, 3, 2, 3, 2, 2};
        for (int what = 0; what < want.length; what++) {
            CHECK.due("count(" + what + ")", bench.count(what), want[what]);
        }
        for (int what : new int[] {-1, 12, 13, 100, Integer.MAX_VALUE, Integer.MIN_VALUE}) {
            CHECK.due("count(" + what + ")", bench.count(what), BAD);
        }
        bench.edge(6, 5, true);
        CHECK.due("count(3) after a change", bench.count(3), 6);
        CHECK.due("count(4) after a change", bench.count(4), 1);
    }

    private static void promise4CountOfNothing() {
        PairBench lonely = Build.nodes(3, 2);
        int[] want = {3, 2, 0, 0, 3, 3, 0, 2, 0, 0, 0, 0};
        for (int what = 0; what < want.length; what++) {
            CHECK.due("without edges count(" + what + ")", lonely.count(what), want[what]);
        }
        PairBench more = Build.graph(1, 3, 0, 0, 0, 1, 0, 2);
        CHECK.due("lack is 0 at least", more.count(4), 0);
        CHECK.due("part 2 has both sides", more.count(7), 4);
    }

    private static void promise5Has() {
        PairBench bench = Build.graph(2, 3, 0, 2, 1, 0);
        CHECK.due("has(0, 2)", bench.has(0, 2), true);
        CHECK.due("has(1, 0)", bench.has(1, 0), true);
        CHECK.due("has(0, 1)", bench.has(0, 1), false);
        CHECK.due("has(0, 0)", bench.has(0, 0), false);
        CHECK.due("has(2, 0)", bench.has(2, 0), false);
        CHECK.due("has(0, 3)", bench.has(0, 3), false);
        // A shift by 64 more would be the same bit.
        CHECK.due("has(0, 66)", bench.has(0, 66), false);
        CHECK.due("has(0, -62)", bench.has(0, -62), false);
        CHECK.due("has(-1, 2)", bench.has(-1, 2), false);
    }

    private static void promise6Partner() {
        PairBench bench = Build.graph(3, 3, 0, 0, 0, 1, 1, 0, 2, 1, 2, 2);
        CHECK.row("partner left", partners(bench, 0), 1, 0, 2);
        CHECK.row("partner right", partners(bench, 1), 1, 0, 2);
        PairBench crowd = Build.graph(3, 1, 2, 0, 1, 0);
        CHECK.row("crowd left", partners(crowd, 0), NO, 0, NO);
        CHECK.row("crowd right", partners(crowd, 1), 1);
        bench.edge(1, 1, true);
        CHECK.row("partner after a change", partners(bench, 0), 0, 1, 2);
        bench.edge(0, 0, false);
        bench.edge(0, 1, false);
        CHECK.row("partner after edges went", partners(bench, 0), NO, 0, 1);
        CHECK.due("partner(2, 0)", bench.partner(2, 0), BAD);
        CHECK.due("partner(0, 3)", bench.partner(0, 3), BAD);
        CHECK.due("partner(1, 3)", bench.partner(1, 3), BAD);
    }

    /** A lesser partner of left 0 is better, even where left 1 goes without one for it. */
    private static void promise6BestBeforeLaterNodes() {
        PairBench bench = Build.graph(3, 2, 0, 0, 0, 1, 1, 0, 2, 1);
        CHECK.row("left 0 takes the lesser", partners(bench, 0), 0, NO, 1);
        PairBench loose = Build.graph(2, 3, 0, 1, 0, 2, 1, 1);
        CHECK.row("but the pairing stays greatest", partners(loose, 0), 2, 1);
        CHECK.row("right 0 goes without", partners(loose, 1), NO, 1, 0);
        PairBench late = Build.graph(3, 2, 0, 0, 1, 0, 1, 1, 2, 1);
        CHECK.row("one with a partner is better", partners(late, 0), 0, 1, NO);
        // Pairing left 0 with right 0 sends three others along: 1 to 1, 2 to 2, 3 to 3.
        PairBench ring = Build.graph(4, 4, 0, 3, 1, 0, 2, 1, 3, 2, 0, 0, 1, 1, 2, 2, 3, 3);
        CHECK.row("round a ring", partners(ring, 0), 0, 1, 2, 3);
    }

    private static void promise7EdgeIs() {
        PairBench bench = Build.threeParts();
        CHECK.due("part 0", bench.edgeIs(0, 0), 1);
        CHECK.due("part 0, other", bench.edgeIs(1, 0), 1);
        CHECK.due("between parts 1 and 0", bench.edgeIs(2, 0), 0);
        CHECK.due("in a block", bench.edgeIs(2, 1), 1);
        CHECK.due("in a block, other", bench.edgeIs(3, 2), 1);
        CHECK.due("between blocks", bench.edgeIs(4, 2), 0);
        CHECK.due("a lone pair", bench.edgeIs(4, 3), 2);
        CHECK.due("between parts 2 and 1", bench.edgeIs(5, 3), 0);
        CHECK.due("part 2", bench.edgeIs(5, 4), 1);
        CHECK.due("nodes but no edge", bench.edgeIs(0, 1), BAD);
        CHECK.due("no such right node", bench.edgeIs(0, 6), BAD);
        CHECK.due("no such left node", bench.edgeIs(6, 0), BAD);
        bench.edge(1, 0, false);
        CHECK.due("the only one left", bench.edgeIs(0, 0), 2);
        CHECK.due("gone", bench.edgeIs(1, 0), BAD);
    }

    private static void promise8NodeIs() {
        PairBench bench = Build.threeParts();
        for (int i = 0; i < 6; i++) {
            CHECK.due("nodeIs(0, " + i + ")", bench.nodeIs(0, i), i < 2 ? 0 : 1);
            CHECK.due("nodeIs(1, " + i + ")", bench.nodeIs(1, i), i > 3 ? 0 : 1);
        }
        CHECK.due("nodeIs(0, 6)", bench.nodeIs(0, 6), BAD);
        CHECK.due("nodeIs(1, -1)", bench.nodeIs(1, -1), BAD);
        CHECK.due("nodeIs(2, 0)", bench.nodeIs(2, 0), BAD);
        CHECK.due("alone", Build.nodes(1, 0).nodeIs(0, 0), 0);
    }

    private static void promise9Cover() {
        PairBench bench = Build.threeParts();
        CHECK.row("cover 0 left", cover(bench, 0, 0), 0, 0, 1, 1, 1, 1);
        CHECK.row("cover 0 right", cover(bench, 0, 1), 1, 0, 0, 0, 0, 0);
        CHECK.row("cover 1 left", cover(bench, 1, 0), 0, 0, 0, 0, 0, 1);
        CHECK.row("cover 1 right", cover(bench, 1, 1), 1, 1, 1, 1, 0, 0);
        CHECK.due("cover(2, 0, 0)", bench.cover(2, 0, 0), BAD);
        CHECK.due("cover(-1, 0, 0)", bench.cover(-1, 0, 0), BAD);
        CHECK.due("cover(0, 2, 0)", bench.cover(0, 2, 0), BAD);
        CHECK.due("cover(0, -1, 0)", bench.cover(0, -1, 0), BAD);
        CHECK.due("cover(1, 0, 6)", bench.cover(1, 0, 6), BAD);
        CHECK.due("cover(1, 1, -1)", bench.cover(1, 1, -1), BAD);
    }

    private static void promise10Hall() {
        PairBench bench = Build.threeParts();
        CHECK.row("hall 0", hall(bench, 0), 1, 1, 0, 0, 0, 0);
        CHECK.row("hall 1", hall(bench, 1), 1, 1, 1, 1, 1, 0);
        PairBench even = Build.graph(2, 2, 0, 0, 1, 1);
        CHECK.row("hall 0 is empty", hall(even, 0), 0, 0);
        CHECK.row("hall 1 lacks nothing", hall(even, 1), 1, 1);
        CHECK.due("hall(2, 0)", bench.hall(2, 0), BAD);
        CHECK.due("hall(-1, 0)", bench.hall(-1, 0), BAD);
        CHECK.due("hall(0, 6)", bench.hall(0, 6), BAD);
        CHECK.due("hall(1, -1)", bench.hall(1, -1), BAD);
    }

    private static void promise11Part() {
        PairBench bench = Build.threeParts();
        CHECK.row("part left", parts(bench, 0), 0, 0, 1, 1, 1, 2);
        CHECK.row("part right", parts(bench, 1), 0, 1, 1, 1, 2, 2);
        PairBench lonely = Build.nodes(1, 1);
        CHECK.row("alone left", parts(lonely, 0), 0);
        CHECK.row("alone right", parts(lonely, 1), 2);
        bench.edge(1, 5, true);
        CHECK.row("part left after a change", parts(bench, 0), 1, 1, 1, 1, 1, 1);
        CHECK.row("part right after a change", parts(bench, 1), 1, 1, 1, 1, 1, 1);
        CHECK.due("part(2, 0)", bench.part(2, 0), BAD);
        CHECK.due("part(0, 6)", bench.part(0, 6), BAD);
        CHECK.due("part(1, -1)", bench.part(1, -1), BAD);
    }

    private static void promise12Block() {
        PairBench bench = Build.threeParts();
        CHECK.row("block left", blocks(bench, 0), NO, NO, 0, 0, 1, NO);
        CHECK.row("block right", blocks(bench, 1), NO, 0, 0, 1, NO, NO);
        // Blocks by least left nodes: 0 with 3, 1 alone, 2 with 4.
        PairBench mixed = Build.graph(5, 5, 0, 4, 3, 4, 0, 1, 3, 1, 1, 3, 2, 0, 2, 2, 4, 0, 4, 2, 4, 3);
        CHECK.row("mixed left", blocks(mixed, 0), 0, 1, 2, 0, 2);
        CHECK.row("mixed right", blocks(mixed, 1), 2, 0, 2, 1, 0);
        CHECK.due("block(2, 2)", bench.block(2, 2), BAD);
        CHECK.due("block(0, 6)", bench.block(0, 6), BAD);
        CHECK.due("block(1, 6)", bench.block(1, 6), BAD);
    }

    private static void promise13Leads() {
        // Lone pairs: 0 has an edge to right 1, 1 to right 2, 3 to right 2.
        PairBench bench = Build.graph(4, 4, 0, 0, 1, 1, 2, 2, 3, 3, 0, 1, 1, 2, 3, 2);
        int[][] want = {{0, 1, 1, 0}, {0, 0, 1, 0}, {0, 0, 0, 0}, {0, 0, 1, 0}};
        for (int b = 0; b < 4; b++) {
            for (int c = 0; c < 4; c++) {
                CHECK.due("leads(" + b + ", " + c + ")", bench.leads(b, c), want[b][c]);
            }
        }
        CHECK.due("leads(4, 0)", bench.leads(4, 0), BAD);
        CHECK.due("leads(0, 4)", bench.leads(0, 4), BAD);
        CHECK.due("leads(-1, 0)", bench.leads(-1, 0), BAD);
        CHECK.due("leads(0, -1)", bench.leads(0, -1), BAD);
        CHECK.due("leads(4, 4)", bench.leads(4, 4), BAD);
        bench.edge(2, 0, true);
        CHECK.due("three in a ring are one block", bench.count(8), 2);
        CHECK.due("the other leads to it", bench.leads(1, 0), 1);
        CHECK.due("it does not lead back", bench.leads(0, 1), 0);
        CHECK.due("no block 2 now", bench.leads(2, 0), BAD);
        CHECK.due("no blocks at all", Build.nodes(2, 2).leads(0, 0), BAD);
    }

    private static void promise14Pairings() {
        CHECK.due("no nodes", new PairBench().pairings(), 1);
        CHECK.due("no edges", Build.nodes(4, 2).pairings(), 1);
        CHECK.due("three parts", Build.threeParts().pairings(), 2 * 2 * 2);
        PairBench square = Build.graph(2, 2, 0, 0, 0, 1, 1, 0, 1, 1);
        CHECK.due("square", square.pairings(), 2);
        square.node(0);
        CHECK.due("square and a node", square.pairings(), 2);
        square.edge(2, 1, true);
        CHECK.due("square and an edge", square.pairings(), 4);
        square.edge(2, 0, true);
        CHECK.due("three and two", square.pairings(), 6);
        square.edge(2, 0, false);
        CHECK.due("back again", square.pairings(), 4);
    }

    private static void promise14PairingsAtTheLimit() {
        PairBench full = Build.complete(16, 16);
        CHECK.due("16 and 16", full.pairings(), 20922789888000L);
        full.edge(15, 15, false);
        CHECK.due("16 and 16 less an edge", full.pairings(), 20922789888000L - 1307674368000L);
        full.node(0);
        CHECK.due("17 left nodes", full.pairings(), NO);
        CHECK.due("16 and 9", Build.complete(16, 9).pairings(), 4151347200L);
        CHECK.due("9 and 16", Build.complete(9, 16).pairings(), 4151347200L);
        CHECK.due("16 and 0", Build.nodes(16, 0).pairings(), 1);
        CHECK.due("0 and 17", Build.nodes(0, 17).pairings(), NO);
        CHECK.due("17 and 0", Build.nodes(17, 0).pairings(), NO);
        full.clearGraph();
        CHECK.due("after clearGraph", full.pairings(), 1);
    }

    private static void promise19ClearGraph() {
        PairBench bench = Build.threeParts();
        bench.node(0);
        bench.thing();
        bench.thing();
        bench.tell(1, 0);
        bench.count(8);
        CHECK.due("clearGraph", bench.clearGraph(), 13);
        CHECK.due("clearGraph again", bench.clearGraph(), 0);
        for (int what = 0; what <= 8; what++) {
            CHECK.due("cleared count(" + what + ")", bench.count(what), 0);
        }
        CHECK.due("things stay", bench.count(9), 2);
        CHECK.due("what is below stays", bench.below(1, 0), true);
        CHECK.due("partner of no node", bench.partner(0, 0), BAD);
        CHECK.due("nodes begin at 0 again", bench.node(0), 0);
        CHECK.due("right ones too", bench.node(1), 0);
        CHECK.due("edges do not come back", bench.has(0, 0), false);
        CHECK.due("and are not counted", bench.count(2), 0);
        PairBench full = Build.nodes(50, 50);
        CHECK.due("full clearGraph", full.clearGraph(), 100);
        CHECK.due("there is room again", full.node(1), 0);
    }

    private static void wrongNodesEverywhere() {
        PairBench bench = Build.threeParts();
        for (int far : FAR) {
            for (int side = 0; side <= 1; side++) {
                CHECK.due("partner " + far, bench.partner(side, far), BAD);
                CHECK.due("nodeIs " + far, bench.nodeIs(side, far), BAD);
                CHECK.due("cover " + far, bench.cover(side, side, far), BAD);
                CHECK.due("hall " + far, bench.hall(side, far), BAD);
                CHECK.due("part " + far, bench.part(side, far), BAD);
                CHECK.due("block " + far, bench.block(side, far), BAD);
            }
            CHECK.due("edge left " + far, bench.edge(far, 0, true), BAD);
            CHECK.due("edge right " + far, bench.edge(0, far, true), BAD);
            CHECK.due("has left " + far, bench.has(far, 0), false);
            CHECK.due("has right " + far, bench.has(0, far), false);
            CHECK.due("edgeIs left " + far, bench.edgeIs(far, 0), BAD);
            CHECK.due("edgeIs right " + far, bench.edgeIs(0, far), BAD);
            CHECK.due("partner side " + far, bench.partner(far, 0), BAD);
            CHECK.due("nodeIs side " + far, bench.nodeIs(far, 0), BAD);
            CHECK.due("cover which " + far, bench.cover(far, 0, 0), BAD);
            CHECK.due("cover side " + far, bench.cover(0, far, 0), BAD);
            CHECK.due("hall which " + far, bench.hall(far, 0), BAD);
            CHECK.due("part side " + far, bench.part(far, 0), BAD);
            CHECK.due("block side " + far, bench.block(far, 0), BAD);
            CHECK.due("leads from " + far, bench.leads(far, 0), BAD);
            CHECK.due("leads to " + far, bench.leads(0, far), BAD);
        }
        CHECK.due("nothing changed", bench.count(2), 12);
    }
}
