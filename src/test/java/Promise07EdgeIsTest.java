/** Promise 7, edgeIs(left, right): "2 it is in all .. pairings, 1 in some, 0 in none. BAD: there is no such edge". */
public final class Promise07EdgeIsTest {
    private static final int BAD = PairBench.BAD;

    public static void main(String[] args) {
        Sentences.run(Promise07EdgeIsTest.class);
    }

    static void promise07BadNoSuchEdgeBetweenNodes(Check check) {
        PairBench bench = Build.graph(3, 3, 0, 0, 1, 2);
        check.due("edgeIs(0, 1)", bench.edgeIs(0, 1), BAD);
        check.due("edgeIs(2, 1), the other way round", bench.edgeIs(2, 1), BAD);
        check.due("edgeIs(2, 2)", bench.edgeIs(2, 2), BAD);
        PairBench bare = Build.nodes(2, 2);
        check.due("without edges", bare.edgeIs(0, 0), BAD);
        check.due("without edges", bare.edgeIs(1, 1), BAD);
    }

    static void promise07BadNoSuchLeftNode(Check check) {
        PairBench bench = Build.complete(3, 5);
        for (int left : Wrong.beside(3)) {
            check.due("edgeIs(" + left + ", 0)", bench.edgeIs(left, 0), BAD);
            check.due("edgeIs(" + left + ", 4)", bench.edgeIs(left, 4), BAD);
        }
    }

    static void promise07BadNoSuchRightNode(Check check) {
        PairBench bench = Build.complete(5, 3);
        for (int right : Wrong.beside(3)) {
            check.due("edgeIs(0, " + right + ")", bench.edgeIs(0, right), BAD);
            check.due("edgeIs(4, " + right + ")", bench.edgeIs(4, right), BAD);
        }
    }

    static void promise07BadNoSuchNodesOnEitherSide(Check check) {
        PairBench bench = Build.lonePairs(3);
        for (int node : Wrong.beside(3)) {
            check.due("edgeIs(" + node + ", " + node + ")", bench.edgeIs(node, node), BAD);
        }
    }

    static void promise07BadWhenTheEdgeHasGone(Check check) {
        PairBench bench = Build.graph(2, 2, 0, 0, 0, 1);
        check.due("one of two", bench.edgeIs(0, 0), 1);
        bench.edge(0, 0, false);
        check.due("gone", bench.edgeIs(0, 0), BAD);
        check.due("the other is in all now", bench.edgeIs(0, 1), 2);
        bench.clearGraph();
        check.due("cleared", bench.edgeIs(0, 1), BAD);
    }

    static void promise07InAll(Check check) {
        check.due("the only edge", Build.graph(1, 1, 0, 0).edgeIs(0, 0), 2);
        check.due("beside bare nodes", Build.graph(3, 3, 2, 2).edgeIs(2, 2), 2);
        PairBench bench = Build.graph(2, 2, 0, 0, 0, 1, 1, 0);
        check.due("edgeIs(0, 1)", bench.edgeIs(0, 1), 2);
        check.due("edgeIs(1, 0)", bench.edgeIs(1, 0), 2);
        PairBench full = Build.lonePairs(50);
        check.due("edgeIs(49, 49)", full.edgeIs(49, 49), 2);
        check.due("edgeIs(0, 0)", full.edgeIs(0, 0), 2);
    }

    static void promise07InSome(Check check) {
        PairBench left = Build.graph(2, 1, 0, 0, 1, 0);
        check.due("two lefts for one right, 0", left.edgeIs(0, 0), 1);
        check.due("two lefts for one right, 1", left.edgeIs(1, 0), 1);
        PairBench right = Build.graph(1, 2, 0, 0, 0, 1);
        check.due("two rights for one left, 0", right.edgeIs(0, 0), 1);
        check.due("two rights for one left, 1", right.edgeIs(0, 1), 1);
        PairBench square = Build.complete(2, 2);
        check.due("in a square", square.edgeIs(1, 0), 1);
        check.due("in a square", square.edgeIs(1, 1), 1);
    }

    static void promise07InNone(Check check) {
        PairBench bench = Build.graph(2, 2, 0, 0, 0, 1, 1, 0);
        check.due("edgeIs(0, 0) would cost a pair", bench.edgeIs(0, 0), 0);
        PairBench parts = Build.threeParts();
        check.due("from part 1 to part 0", parts.edgeIs(2, 0), 0);
        check.due("from part 2 to part 1", parts.edgeIs(5, 3), 0);
        check.due("from block to block", parts.edgeIs(4, 2), 0);
        parts.edge(5, 0, true);
        check.due("from part 2 to part 0", parts.edgeIs(5, 0), 0);
    }
}
