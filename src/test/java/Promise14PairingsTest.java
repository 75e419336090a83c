/** Promise 14, pairings(): "NO: a side has more than 16 nodes", and how many there are of nothing and of the most. */
public final class Promise14PairingsTest {
    private static final int NO = PairBench.NO;
    private static final long FACTORIAL_16 = 20922789888000L;

    public static void main(String[] args) {
        Sentences.run(Promise14PairingsTest.class);
    }

    static void promise14NoMoreThan16LeftNodes(Check check) {
        PairBench bench = Build.graph(16, 1, 0, 0, 15, 0);
        check.due("16 left nodes", bench.pairings(), 2);
        bench.node(0);
        check.due("17 left nodes", bench.pairings(), NO);
        bench.node(0);
        check.due("18 left nodes", bench.pairings(), NO);
        check.due("50 left nodes", Build.nodes(50, 0).pairings(), NO);
    }

    static void promise14NoMoreThan16RightNodes(Check check) {
        PairBench bench = Build.graph(1, 16, 0, 0, 0, 15);
        check.due("16 right nodes", bench.pairings(), 2);
        bench.node(1);
        check.due("17 right nodes", bench.pairings(), NO);
        bench.node(1);
        check.due("18 right nodes", bench.pairings(), NO);
        check.due("50 right nodes", Build.nodes(0, 50).pairings(), NO);
    }

    static void promise14NoBothSides(Check check) {
        check.due("17 and 17", Build.lonePairs(17).pairings(), NO);
        check.due("50 and 50", Build.lonePairs(50).pairings(), NO);
        check.due("16 and 16", Build.lonePairs(16).pairings(), 1);
    }

    static void promise14EachSideIsCountedForItself(Check check) {
        check.due("10 and 10 are 20 together", Build.lonePairs(10).pairings(), 1);
        check.due("16 and 16 without edges", Build.nodes(16, 16).pairings(), 1);
    }

    static void promise14OneWithoutEdges(Check check) {
        check.due("no nodes", new PairBench().pairings(), 1);
        check.due("3 and 4", Build.nodes(3, 4).pairings(), 1);
        check.due("16 and 0", Build.nodes(16, 0).pairings(), 1);
        check.due("0 and 16", Build.nodes(0, 16).pairings(), 1);
        PairBench bench = Build.complete(2, 2);
        check.due("2 to 2", bench.pairings(), 2);
        for (int i = 0; i < 4; i++) {
            bench.edge(i / 2, i % 2, false);
        }
        check.due("all edges gone", bench.pairings(), 1);
    }

    static void promise14TheMostThereCanBe(Check check) {
        PairBench bench = Build.complete(16, 16);
        check.due("all 16 to all 16", bench.pairings(), FACTORIAL_16);
        bench.edge(15, 15, false);
        check.due("less the last edge", bench.pairings(), FACTORIAL_16 - FACTORIAL_16 / 16);
        bench.edge(15, 15, true);
        bench.edge(0, 0, false);
        check.due("less the first edge", bench.pairings(), FACTORIAL_16 - FACTORIAL_16 / 16);
    }

    static void promise14OneSideMuchLarger(Check check) {
        check.due("1 to 16", Build.complete(1, 16).pairings(), 16);
        check.due("16 to 1", Build.complete(16, 1).pairings(), 16);
        check.due("15 to 16", Build.complete(15, 16).pairings(), FACTORIAL_16);
        check.due("16 to 15", Build.complete(16, 15).pairings(), FACTORIAL_16);
        check.due("8 to 16", Build.complete(8, 16).pairings(), 518918400L);
        check.due("16 to 8", Build.complete(16, 8).pairings(), 518918400L);
    }

    static void promise14GreatestOnesAlone(Check check) {
        check.due("the edge that costs a pair is in none", Build.graph(2, 2, 0, 0, 0, 1, 1, 0).pairings(), 1);
        check.due("three parts", Build.threeParts().pairings(), 8);
    }

    static void promise14PartsThatDoNotTouch(Check check) {
        PairBench bench = Build.nodes(16, 16);
        for (int i = 0; i < 16; i++) {
            bench.edge(i, i, true);
            bench.edge(i, i ^ 1, true);
        }
        check.due("eight squares", bench.pairings(), 256);
        check.due("16 lefts in fours for one right each", fours(0).pairings(), 256);
        check.due("16 rights in fours for one left each", fours(1).pairings(), 256);
    }

    /** 16 nodes of a side, four at each of four nodes of the other side. */
    private static PairBench fours(int side) {
        PairBench bench = side == 0 ? Build.nodes(16, 4) : Build.nodes(4, 16);
        for (int i = 0; i < 16; i++) {
            bench.edge(side == 0 ? i : i / 4, side == 0 ? i / 4 : i, true);
        }
        return bench;
    }

    static void promise14NoGoesWhenCleared(Check check) {
        PairBench bench = Build.nodes(17, 17);
        check.due("17 and 17", bench.pairings(), NO);
        bench.clearGraph();
        check.due("cleared", bench.pairings(), 1);
        Build.addNodes(bench, 2, 2);
        Build.addEdges(bench, 0, 0, 0, 1);
        check.due("counted anew", bench.pairings(), 2);
    }

    static void promise14NotNoByThings(Check check) {
        PairBench bench = Build.things(40);
        check.due("40 things", bench.pairings(), 1);
    }
}
