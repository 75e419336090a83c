/** Promise 11, part(side, node): "BAD", and of the terms which part bare nodes and their neighbours are in. */
public final class Promise11PartTest {
    private static final int BAD = PairBench.BAD;

    public static void main(String[] args) {
        Sentences.run(Promise11PartTest.class);
    }

    private static void parts(Check check, String name, PairBench bench, int side, int... want) {
        for (int node = 0; node < want.length; node++) {
            check.due(name + ": part(" + side + ", " + node + ")", bench.part(side, node), want[node]);
        }
    }

    static void promise11BadNoSuchSide(Check check) {
        PairBench bench = Build.lonePairs(3);
        for (int side : Wrong.SIDES) {
            check.due("part(" + side + ", 0)", bench.part(side, 0), BAD);
            check.due("part(" + side + ", 2)", bench.part(side, 2), BAD);
        }
    }

    static void promise11BadNoSuchLeftNode(Check check) {
        PairBench bench = Build.complete(3, 5);
        for (int node : Wrong.beside(3)) {
            check.due("part(0, " + node + ")", bench.part(0, node), BAD);
        }
        check.due("no left nodes", Build.nodes(0, 1).part(0, 0), BAD);
    }

    static void promise11BadNoSuchRightNode(Check check) {
        PairBench bench = Build.complete(5, 3);
        for (int node : Wrong.beside(3)) {
            check.due("part(1, " + node + ")", bench.part(1, node), BAD);
        }
        check.due("no right nodes", Build.nodes(1, 0).part(1, 0), BAD);
    }

    static void promise11WithoutEdges(Check check) {
        PairBench bench = Build.nodes(3, 2);
        parts(check, "no edges", bench, 0, 0, 0, 0);
        parts(check, "no edges", bench, 1, 2, 2);
        parts(check, "no right nodes", Build.nodes(2, 0), 0, 0, 0);
        parts(check, "no left nodes", Build.nodes(0, 2), 1, 2, 2);
    }

    static void promise11Part0HasRightNodesByAnEdgeToIt(Check check) {
        PairBench bench = Build.graph(3, 2, 0, 0, 1, 0, 2, 0, 2, 1);
        parts(check, "0 and 1 share right 0", bench, 0, 0, 0, 1);
        parts(check, "0 and 1 share right 0", bench, 1, 0, 1);
    }

    static void promise11Part2HasLeftNodesByAnEdgeToIt(Check check) {
        PairBench bench = Build.graph(2, 3, 0, 0, 0, 1, 0, 2, 1, 2);
        parts(check, "rights 0 and 1 share left 0", bench, 0, 2, 1);
        parts(check, "rights 0 and 1 share left 0", bench, 1, 2, 2, 1);
    }

    static void promise11AllOthersAreInPart1(Check check) {
        PairBench bench = Build.complete(3, 3);
        parts(check, "all to all", bench, 0, 1, 1, 1);
        parts(check, "all to all", bench, 1, 1, 1, 1);
        PairBench full = Build.lonePairs(50);
        check.due("part(0, 49)", full.part(0, 49), 1);
        check.due("part(1, 49)", full.part(1, 49), 1);
        check.due("part(0, 50)", full.part(0, 50), BAD);
        check.due("part(1, 50)", full.part(1, 50), BAD);
    }

    static void promise11AllInOnePart(Check check) {
        PairBench more = Build.complete(3, 2);
        parts(check, "3 and 2", more, 0, 0, 0, 0);
        parts(check, "3 and 2", more, 1, 0, 0);
        PairBench fewer = Build.complete(2, 3);
        parts(check, "2 and 3", fewer, 0, 2, 2);
        parts(check, "2 and 3", fewer, 1, 2, 2, 2);
    }

    static void promise11PathAcrossFullSides(Check check) {
        // Left 49 is bare or, by turns, any other: each has edges to its own number and the one before.
        PairBench bench = Build.nodes(50, 50);
        for (int i = 0; i < 49; i++) {
            bench.edge(i, i, true);
            bench.edge(i + 1, i, true);
        }
        for (int i = 0; i < 50; i++) {
            check.due("part(0, " + i + ")", bench.part(0, i), 0);
            check.due("part(1, " + i + ")", bench.part(1, i), i == 49 ? 2 : 0);
        }
    }
}
