/** Promise 5, has(left, right): "false without such nodes". */
public final class Promise05HasTest {
    public static void main(String[] args) {
        Sentences.run(Promise05HasTest.class);
    }

    static void promise05FalseWithoutSuchLeftNode(Check check) {
        PairBench bench = Build.complete(3, 5);
        for (int left : Wrong.beside(3)) {
            for (int right = 0; right < 5; right++) {
                check.due("has(" + left + ", " + right + ")", bench.has(left, right), false);
            }
        }
    }

    static void promise05FalseWithoutSuchRightNode(Check check) {
        PairBench bench = Build.complete(5, 3);
        for (int right : Wrong.beside(3)) {
            for (int left = 0; left < 5; left++) {
                check.due("has(" + left + ", " + right + ")", bench.has(left, right), false);
            }
        }
    }

    static void promise05FalseWithoutSuchNodesOnEitherSide(Check check) {
        PairBench bench = Build.complete(3, 3);
        for (int node : Wrong.beside(3)) {
            check.due("has(" + node + ", " + node + ")", bench.has(node, node), false);
        }
        check.due("no right side", Build.nodes(2, 0).has(0, 0), false);
        check.due("no left side", Build.nodes(0, 2).has(0, 0), false);
    }

    static void promise05FalseBesideFullSides(Check check) {
        PairBench bench = Build.lonePairs(50);
        for (int node : Wrong.beside(50)) {
            check.due("has(" + node + ", 49)", bench.has(node, 49), false);
            check.due("has(49, " + node + ")", bench.has(49, node), false);
        }
        check.due("has(49, 49)", bench.has(49, 49), true);
        check.due("has(49, 48)", bench.has(49, 48), false);
        check.due("has(48, 49)", bench.has(48, 49), false);
    }

    static void promise05WhetherThereIsAnEdge(Check check) {
        PairBench bench = Build.graph(3, 3, 0, 2);
        check.due("has(0, 2)", bench.has(0, 2), true);
        check.due("has(2, 0), the other way", bench.has(2, 0), false);
        bench.edge(0, 2, false);
        check.due("has(0, 2), gone", bench.has(0, 2), false);
    }

    static void promise05FalseWhenCleared(Check check) {
        PairBench bench = Build.complete(2, 2);
        bench.clearGraph();
        check.due("has(0, 0) without nodes", bench.has(0, 0), false);
        check.due("has(1, 1) without nodes", bench.has(1, 1), false);
        Build.addNodes(bench, 2, 2);
        check.due("has(0, 0) of new nodes", bench.has(0, 0), false);
        check.due("has(1, 1) of new nodes", bench.has(1, 1), false);
    }
}
