/** Promise 19, clearGraph(): "Nodes and edges go: how many nodes there were". */
public final class Promise19ClearGraphTest {
    private static final int BAD = PairBench.BAD;

    public static void main(String[] args) {
        Sentences.run(Promise19ClearGraphTest.class);
    }

    static void promise19HowManyNodesThereWere(Check check) {
        check.due("none", new PairBench().clearGraph(), 0);
        check.due("one left", Build.nodes(1, 0).clearGraph(), 1);
        check.due("one right", Build.nodes(0, 1).clearGraph(), 1);
        check.due("edges are not counted", Build.complete(3, 4).clearGraph(), 7);
        check.due("things are not counted", Build.things(7).clearGraph(), 0);
        check.due("refused nodes are not counted", refused().clearGraph(), 51);
    }

    private static PairBench refused() {
        PairBench bench = Build.nodes(50, 1);
        bench.node(0);
        bench.node(2);
        bench.node(-1);
        return bench;
    }

    static void promise19FullSides(Check check) {
        PairBench bench = Build.lonePairs(50);
        check.due("50 and 50", bench.clearGraph(), 100);
        for (int i = 0; i < 50; i++) {
            check.due("node(0) anew", bench.node(0), i);
            check.due("node(1) anew", bench.node(1), i);
        }
        check.due("node(0) when there are 50 again", bench.node(0), PairBench.FULL);
        check.due("node(1) when there are 50 again", bench.node(1), PairBench.FULL);
        check.due("no edge", bench.count(2), 0);
        check.due("once more", bench.clearGraph(), 100);
    }

    static void promise19NoneWhenClearedTwice(Check check) {
        PairBench bench = Build.threeParts();
        check.due("clearGraph()", bench.clearGraph(), 12);
        check.due("clearGraph() again", bench.clearGraph(), 0);
        check.due("and again", bench.clearGraph(), 0);
    }

    static void promise19NodesGo(Check check) {
        PairBench bench = Build.threeParts();
        bench.clearGraph();
        for (int side = 0; side <= 1; side++) {
            check.due("count(" + side + ")", bench.count(side), 0);
            check.due("partner(" + side + ", 0)", bench.partner(side, 0), BAD);
            check.due("nodeIs(" + side + ", 0)", bench.nodeIs(side, 0), BAD);
            check.due("part(" + side + ", 0)", bench.part(side, 0), BAD);
            check.due("block(" + side + ", 2)", bench.block(side, 2), BAD);
            check.due("cover(0, " + side + ", 0)", bench.cover(0, side, 0), BAD);
        }
        check.due("hall(0, 0)", bench.hall(0, 0), BAD);
        check.due("edge(0, 0, true)", bench.edge(0, 0, true), BAD);
        check.due("edge(0, 0, false)", bench.edge(0, 0, false), BAD);
    }

    static void promise19EdgesGo(Check check) {
        PairBench bench = Build.complete(3, 3);
        bench.clearGraph();
        check.due("edges", bench.count(2), 0);
        check.due("has(0, 0)", bench.has(0, 0), false);
        check.due("edgeIs(0, 0)", bench.edgeIs(0, 0), BAD);
        Build.addNodes(bench, 3, 3);
        for (int i = 0; i < 9; i++) {
            check.due("has(" + i / 3 + ", " + i % 3 + ")", bench.has(i / 3, i % 3), false);
        }
        check.due("edges of new nodes", bench.count(2), 0);
        check.due("SIZE of new nodes", bench.count(3), 0);
        check.due("an edge is new", bench.edge(0, 0, true), 1);
    }

    static void promise19WhatWasFoundGoes(Check check) {
        PairBench bench = Build.threeParts();
        bench.pairings();
        bench.leads(0, 1);
        bench.clearGraph();
        for (int what = 0; what <= 8; what++) {
            check.due("count(" + what + ")", bench.count(what), 0);
        }
        check.due("pairings()", bench.pairings(), 1);
        check.due("leads(0, 1)", bench.leads(0, 1), BAD);
        check.due("leads(0, 0)", bench.leads(0, 0), BAD);
    }

    static void promise19LikeANewObjectAfterwards(Check check) {
        PairBench used = Build.complete(7, 8);
        used.pairings();
        used.clearGraph();
        Build.addNodes(used, 6, 6);
        Build.addEdges(used, 0, 0, 1, 0, 2, 0, 2, 1, 2, 2, 3, 1, 3, 2, 4, 2, 4, 3, 5, 3, 5, 4, 5, 5);
        check.due("three parts on a cleared bench", Look.graph(used), Look.graph(Build.threeParts()));
    }

    static void promise19ThingsStay(Check check) {
        PairBench bench = Build.both();
        String before = Look.things(bench);
        check.due("clearGraph()", bench.clearGraph(), 12);
        check.due("things", Look.things(bench), before);
    }
}
