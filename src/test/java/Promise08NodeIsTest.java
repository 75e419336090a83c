/** Promise 8, nodeIs(side, node): "1 it has a partner in all GREATEST pairings, 0 not. BAD". */
public final class Promise08NodeIsTest {
    private static final int BAD = PairBench.BAD;

    public static void main(String[] args) {
        Sentences.run(Promise08NodeIsTest.class);
    }

    static void promise08BadNoSuchSide(Check check) {
        PairBench bench = Build.lonePairs(3);
        for (int side : Wrong.SIDES) {
            check.due("nodeIs(" + side + ", 0)", bench.nodeIs(side, 0), BAD);
            check.due("nodeIs(" + side + ", 2)", bench.nodeIs(side, 2), BAD);
        }
    }

    static void promise08BadNoSuchLeftNode(Check check) {
        PairBench bench = Build.complete(3, 5);
        for (int node : Wrong.beside(3)) {
            check.due("nodeIs(0, " + node + ")", bench.nodeIs(0, node), BAD);
        }
        check.due("no left nodes", Build.nodes(0, 1).nodeIs(0, 0), BAD);
    }

    static void promise08BadNoSuchRightNode(Check check) {
        PairBench bench = Build.complete(5, 3);
        for (int node : Wrong.beside(3)) {
            check.due("nodeIs(1, " + node + ")", bench.nodeIs(1, node), BAD);
        }
        check.due("no right nodes", Build.nodes(1, 0).nodeIs(1, 0), BAD);
    }

    static void promise08NotWithoutEdges(Check check) {
        PairBench bench = Build.nodes(2, 2);
        check.due("nodeIs(0, 1)", bench.nodeIs(0, 1), 0);
        check.due("nodeIs(1, 1)", bench.nodeIs(1, 1), 0);
        check.due("left alone", Build.nodes(1, 0).nodeIs(0, 0), 0);
        check.due("right alone", Build.nodes(0, 1).nodeIs(1, 0), 0);
    }

    static void promise08NotWhereOnlySomePairIt(Check check) {
        PairBench bench = Build.graph(2, 1, 0, 0, 1, 0);
        check.due("left 0 has one in THE BEST", bench.partner(0, 0), 0);
        check.due("nodeIs(0, 0)", bench.nodeIs(0, 0), 0);
        check.due("nodeIs(0, 1)", bench.nodeIs(0, 1), 0);
        check.due("nodeIs(1, 0)", bench.nodeIs(1, 0), 1);
        PairBench turned = Build.graph(1, 2, 0, 0, 0, 1);
        check.due("right 0 has one in THE BEST", turned.partner(1, 0), 0);
        check.due("nodeIs(1, 0)", turned.nodeIs(1, 0), 0);
        check.due("nodeIs(1, 1)", turned.nodeIs(1, 1), 0);
        check.due("nodeIs(0, 0)", turned.nodeIs(0, 0), 1);
    }

    static void promise08InAll(Check check) {
        PairBench bench = Build.lonePairs(50);
        check.due("nodeIs(0, 0)", bench.nodeIs(0, 0), 1);
        check.due("nodeIs(1, 0)", bench.nodeIs(1, 0), 1);
        check.due("nodeIs(0, 49)", bench.nodeIs(0, 49), 1);
        check.due("nodeIs(1, 49)", bench.nodeIs(1, 49), 1);
        bench.edge(49, 49, false);
        check.due("nodeIs(0, 49) without its edge", bench.nodeIs(0, 49), 0);
        check.due("nodeIs(1, 49) without its edge", bench.nodeIs(1, 49), 0);
    }
}
