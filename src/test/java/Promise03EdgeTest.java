/** Promise 3, edge(left, right, there): "1 if that is another thing than before, else 0. BAD: no such nodes". */
public final class Promise03EdgeTest {
    private static final int BAD = PairBench.BAD;

    public static void main(String[] args) {
        Sentences.run(Promise03EdgeTest.class);
    }

    static void promise03OneIfAnotherThingThanBefore(Check check) {
        PairBench bench = Build.nodes(2, 2);
        for (int i = 0; i < 4; i++) {
            check.due("edge(1, 0, true)", bench.edge(1, 0, true), 1);
            check.due("edge(1, 0, false)", bench.edge(1, 0, false), 1);
        }
    }

    static void promise03ElseZeroWhereItIsThere(Check check) {
        PairBench bench = Build.graph(2, 2, 0, 1);
        check.due("edge(0, 1, true) again", bench.edge(0, 1, true), 0);
        check.due("and once more", bench.edge(0, 1, true), 0);
        check.due("it stays", bench.has(0, 1), true);
    }

    static void promise03ElseZeroWhereItIsNotThere(Check check) {
        PairBench bench = Build.graph(2, 2, 0, 1);
        check.due("edge(1, 0, false), never there", bench.edge(1, 0, false), 0);
        bench.edge(0, 1, false);
        check.due("edge(0, 1, false), gone before", bench.edge(0, 1, false), 0);
        check.due("it stays away", bench.has(0, 1), false);
        check.due("edges", bench.count(2), 0);
    }

    static void promise03AtMostOneBetweenTwo(Check check) {
        PairBench bench = Build.nodes(1, 1);
        bench.edge(0, 0, true);
        bench.edge(0, 0, true);
        check.due("edges", bench.count(2), 1);
        check.due("taken away once", bench.edge(0, 0, false), 1);
        check.due("has(0, 0)", bench.has(0, 0), false);
        check.due("edges", bench.count(2), 0);
    }

    static void promise03BadNoSuchLeftNode(Check check) {
        PairBench bench = Build.nodes(3, 5);
        for (int left : Wrong.beside(3)) {
            check.due("edge(" + left + ", 0, true)", bench.edge(left, 0, true), BAD);
            check.due("edge(" + left + ", 4, false)", bench.edge(left, 4, false), BAD);
        }
    }

    static void promise03BadNoSuchRightNode(Check check) {
        PairBench bench = Build.nodes(5, 3);
        for (int right : Wrong.beside(3)) {
            check.due("edge(0, " + right + ", true)", bench.edge(0, right, true), BAD);
            check.due("edge(4, " + right + ", false)", bench.edge(4, right, false), BAD);
        }
    }

    static void promise03BadNoSuchNodesOnEitherSide(Check check) {
        PairBench bench = Build.nodes(3, 3);
        for (int node : Wrong.beside(3)) {
            check.due("edge(" + node + ", " + node + ", true)", bench.edge(node, node, true), BAD);
            check.due("edge(" + node + ", " + node + ", false)", bench.edge(node, node, false), BAD);
        }
    }

    static void promise03BadWhereOneSideIsEmpty(Check check) {
        check.due("no right node", Build.nodes(2, 0).edge(0, 0, true), BAD);
        check.due("no left node", Build.nodes(0, 2).edge(0, 0, true), BAD);
        check.due("no right node, false", Build.nodes(2, 0).edge(0, 0, false), BAD);
        check.due("no left node, false", Build.nodes(0, 2).edge(0, 0, false), BAD);
    }

    static void promise03BadChangesNothing(Check check) {
        PairBench bench = Build.threeParts();
        String before = Look.graph(bench);
        for (int node : Wrong.beside(6)) {
            bench.edge(node, 1, true);
            bench.edge(1, node, true);
            bench.edge(node, 0, false);
            bench.edge(0, node, false);
        }
        check.due("after refused calls", Look.graph(bench), before);
    }

    static void promise03BadIsNotKeptForALaterNode(Check check) {
        PairBench bench = Build.nodes(1, 1);
        bench.edge(1, 0, true);
        bench.edge(0, 1, true);
        bench.edge(1, 1, true);
        Build.addNodes(bench, 1, 1);
        check.due("has(1, 0)", bench.has(1, 0), false);
        check.due("has(0, 1)", bench.has(0, 1), false);
        check.due("has(1, 1)", bench.has(1, 1), false);
        check.due("edges", bench.count(2), 0);
    }

    static void promise03LastNodesOfFullSides(Check check) {
        PairBench bench = Build.nodes(50, 50);
        int[][] corners = {{49, 49}, {0, 49}, {49, 0}, {0, 0}, {31, 32}, {32, 31}};
        for (int[] ends : corners) {
            String call = "edge(" + ends[0] + ", " + ends[1] + ")";
            check.due(call + " there", bench.edge(ends[0], ends[1], true), 1);
            check.due(call + " there again", bench.edge(ends[0], ends[1], true), 0);
        }
        check.due("edges", bench.count(2), corners.length);
        check.due("edge(50, 49, true)", bench.edge(50, 49, true), BAD);
        check.due("edge(49, 50, true)", bench.edge(49, 50, true), BAD);
        for (int[] ends : corners) {
            check.due("edge away", bench.edge(ends[0], ends[1], false), 1);
        }
        check.due("edges", bench.count(2), 0);
    }
}
