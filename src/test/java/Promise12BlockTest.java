/** Promise 12, block(side, node): "NO in parts 0 and 2. BAD", and blocks at the bounds. */
public final class Promise12BlockTest {
    private static final int BAD = PairBench.BAD;
    private static final int NO = PairBench.NO;

    public static void main(String[] args) {
        Sentences.run(Promise12BlockTest.class);
    }

    private static void blocks(Check check, String name, PairBench bench, int side, int... want) {
        for (int node = 0; node < want.length; node++) {
            check.due(name + ": block(" + side + ", " + node + ")", bench.block(side, node), want[node]);
        }
    }

    static void promise12NoInPart0(Check check) {
        PairBench bench = Build.complete(3, 2);
        blocks(check, "3 and 2", bench, 0, NO, NO, NO);
        blocks(check, "3 and 2", bench, 1, NO, NO);
        PairBench parts = Build.threeParts();
        check.due("a bare left node", parts.block(0, 1), NO);
        check.due("a left node with a partner", parts.block(0, 0), NO);
        check.due("its right node", parts.block(1, 0), NO);
    }

    static void promise12NoInPart2(Check check) {
        PairBench bench = Build.complete(2, 3);
        blocks(check, "2 and 3", bench, 0, NO, NO);
        blocks(check, "2 and 3", bench, 1, NO, NO, NO);
        PairBench parts = Build.threeParts();
        check.due("a bare right node", parts.block(1, 5), NO);
        check.due("a right node with a partner", parts.block(1, 4), NO);
        check.due("its left node", parts.block(0, 5), NO);
    }

    static void promise12NoWithoutEdges(Check check) {
        PairBench bench = Build.nodes(2, 2);
        blocks(check, "no edges", bench, 0, NO, NO);
        blocks(check, "no edges", bench, 1, NO, NO);
    }

    static void promise12BadNoSuchSide(Check check) {
        PairBench bench = Build.lonePairs(3);
        for (int side : Wrong.SIDES) {
            check.due("block(" + side + ", 0)", bench.block(side, 0), BAD);
            check.due("block(" + side + ", 2)", bench.block(side, 2), BAD);
        }
    }

    static void promise12BadNoSuchLeftNode(Check check) {
        PairBench bench = Build.complete(3, 5);
        for (int node : Wrong.beside(3)) {
            check.due("block(0, " + node + ")", bench.block(0, node), BAD);
        }
        check.due("no left nodes", Build.nodes(0, 1).block(0, 0), BAD);
    }

    static void promise12BadNoSuchRightNode(Check check) {
        PairBench bench = Build.complete(5, 3);
        for (int node : Wrong.beside(3)) {
            check.due("block(1, " + node + ")", bench.block(1, node), BAD);
        }
        check.due("no right nodes", Build.nodes(1, 0).block(1, 0), BAD);
    }

    static void promise12NumberedFrom0ByLeastLeftNodes(Check check) {
        // Left 0 is bare; left 1 and 3 share rights 2 and 0; left 2 has right 1.
        PairBench bench = Build.graph(4, 3, 1, 2, 1, 0, 3, 2, 3, 0, 2, 1);
        blocks(check, "first block at left 1", bench, 0, NO, 0, 1, 0);
        blocks(check, "first block at left 1", bench, 1, 0, 1, 0);
    }

    static void promise12StepsOneWayMakeNoBlock(Check check) {
        PairBench bench = Build.graph(2, 2, 0, 0, 0, 1, 1, 1);
        blocks(check, "left 0 comes to left 1", bench, 0, 0, 1);
        blocks(check, "left 0 comes to left 1", bench, 1, 0, 1);
        bench.edge(1, 0, true);
        blocks(check, "and back", bench, 0, 0, 0);
        blocks(check, "and back", bench, 1, 0, 0);
    }

    static void promise12FiftyBlocks(Check check) {
        PairBench bench = Build.lonePairs(50);
        for (int i = 0; i < 50; i++) {
            check.due("block(0, " + i + ")", bench.block(0, i), i);
            check.due("block(1, " + i + ")", bench.block(1, i), i);
        }
        check.due("block(0, 50)", bench.block(0, 50), BAD);
        check.due("block(1, 50)", bench.block(1, 50), BAD);
    }

    static void promise12OneBlockOfAHundredNodes(Check check) {
        PairBench bench = Build.lonePairs(50);
        for (int i = 0; i < 50; i++) {
            bench.edge(i, (i + 1) % 50, true);
        }
        for (int i = 0; i < 50; i++) {
            check.due("block(0, " + i + ")", bench.block(0, i), 0);
            check.due("block(1, " + i + ")", bench.block(1, i), 0);
        }
    }
}
