/** Promise 6, partner(side, node): "NO without one. BAD: no such side, node", and the ties of THE BEST pairing. */
public final class Promise06PartnerTest {
    private static final int BAD = PairBench.BAD;
    private static final int NO = PairBench.NO;

    public static void main(String[] args) {
        Sentences.run(Promise06PartnerTest.class);
    }

    private static void partners(Check check, String name, PairBench bench, int side, int... want) {
        for (int node = 0; node < want.length; node++) {
            check.due(name + ": partner(" + side + ", " + node + ")", bench.partner(side, node), want[node]);
        }
    }

    static void promise06NoWithoutOneOnTheLeft(Check check) {
        PairBench bench = Build.graph(3, 1, 0, 0, 1, 0);
        partners(check, "one right node for two", bench, 0, 0, NO, NO);
        partners(check, "no right nodes", Build.nodes(2, 0), 0, NO, NO);
    }

    static void promise06NoWithoutOneOnTheRight(Check check) {
        PairBench bench = Build.graph(1, 3, 0, 1, 0, 2);
        partners(check, "one left node for two", bench, 1, NO, 0, NO);
        partners(check, "no left nodes", Build.nodes(0, 2), 1, NO, NO);
    }

    static void promise06NoWithoutEdges(Check check) {
        PairBench bench = Build.nodes(2, 2);
        partners(check, "no edges", bench, 0, NO, NO);
        partners(check, "no edges", bench, 1, NO, NO);
        bench.edge(1, 1, true);
        partners(check, "one edge", bench, 0, NO, 1);
        partners(check, "one edge", bench, 1, NO, 1);
        bench.edge(1, 1, false);
        partners(check, "it has gone", bench, 0, NO, NO);
        partners(check, "it has gone", bench, 1, NO, NO);
    }

    static void promise06BadNoSuchSide(Check check) {
        PairBench bench = Build.lonePairs(3);
        for (int side : Wrong.SIDES) {
            check.due("partner(" + side + ", 0)", bench.partner(side, 0), BAD);
            check.due("partner(" + side + ", 2)", bench.partner(side, 2), BAD);
        }
    }

    static void promise06BadNoSuchLeftNode(Check check) {
        PairBench bench = Build.complete(3, 5);
        for (int node : Wrong.beside(3)) {
            check.due("partner(0, " + node + ")", bench.partner(0, node), BAD);
        }
    }

    static void promise06BadNoSuchRightNode(Check check) {
        PairBench bench = Build.complete(5, 3);
        for (int node : Wrong.beside(3)) {
            check.due("partner(1, " + node + ")", bench.partner(1, node), BAD);
        }
    }

    static void promise06BadWithoutEdgesToo(Check check) {
        PairBench bench = Build.nodes(1, 0);
        check.due("partner(0, 0)", bench.partner(0, 0), NO);
        check.due("partner(0, 1)", bench.partner(0, 1), BAD);
        check.due("partner(1, 0)", bench.partner(1, 0), BAD);
        check.due("partner(2, 0)", bench.partner(2, 0), BAD);
        PairBench full = Build.nodes(50, 50);
        check.due("partner(0, 49)", full.partner(0, 49), NO);
        check.due("partner(0, 50)", full.partner(0, 50), BAD);
        check.due("partner(1, 49)", full.partner(1, 49), NO);
        check.due("partner(1, 50)", full.partner(1, 50), BAD);
    }

    static void promise06LesserPartnerIsBetter(Check check) {
        partners(check, "both to both", Build.complete(2, 2), 0, 0, 1);
        partners(check, "two of three", Build.complete(2, 3), 0, 0, 1);
        PairBench bench = Build.graph(3, 3, 0, 1, 0, 2, 1, 1, 1, 2, 2, 0, 2, 1);
        partners(check, "left 2 has 0 alone", bench, 0, 1, 2, 0);
    }

    static void promise06LesserPartnerThoughTheNextGoesWithout(Check check) {
        PairBench bench = Build.graph(4, 3, 0, 1, 0, 2, 1, 1, 2, 0, 2, 2, 3, 0);
        partners(check, "left 0 takes 1 from left 1, left 3 comes in", bench, 0, 1, NO, 2, 0);
        partners(check, "left 0 takes 1 from left 1, left 3 comes in", bench, 1, 3, 0, 2);
    }

    static void promise06OneWithAPartnerIsBetter(Check check) {
        partners(check, "three for two", Build.complete(3, 2), 0, 0, 1, NO);
        PairBench bench = Build.graph(3, 2, 0, 1, 1, 0, 1, 1, 2, 0);
        partners(check, "left 0 before left 2", bench, 0, 1, 0, NO);
    }

    static void promise06GreatestComesFirst(Check check) {
        PairBench bench = Build.graph(2, 2, 0, 0, 0, 1, 1, 0);
        partners(check, "left 0 gives way to make two pairs", bench, 0, 1, 0);
        PairBench three = Build.graph(3, 3, 0, 0, 0, 1, 1, 0, 1, 2, 2, 1);
        partners(check, "left 2 has 1 alone", three, 0, 0, 2, 1);
    }

    static void promise06FullSides(Check check) {
        PairBench bench = Build.nodes(50, 50);
        for (int i = 0; i < 50; i++) {
            bench.edge(i, 49 - i, true);
        }
        for (int i = 0; i < 50; i++) {
            check.due("partner(0, " + i + ")", bench.partner(0, i), 49 - i);
            check.due("partner(1, " + i + ")", bench.partner(1, i), 49 - i);
        }
    }
}
