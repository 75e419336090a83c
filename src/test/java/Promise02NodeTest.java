/** Promise 2, node(side): "BAD: no such side; FULL: there are 50", and of the terms "at most 50 each". */
public final class Promise02NodeTest {
    private static final int BAD = PairBench.BAD;
    private static final int FULL = PairBench.FULL;

    public static void main(String[] args) {
        Sentences.run(Promise02NodeTest.class);
    }

    static void promise02BadNoSuchSide(Check check) {
        PairBench bench = Build.nodes(2, 3);
        for (int side : Wrong.SIDES) {
            check.due("node(" + side + ")", bench.node(side), BAD);
        }
        check.due("left nodes stay", bench.count(0), 2);
        check.due("right nodes stay", bench.count(1), 3);
        check.due("the next left one", bench.node(0), 2);
        check.due("the next right one", bench.node(1), 3);
    }

    static void promise02BadThoughBothSidesAreFull(Check check) {
        PairBench bench = Build.nodes(50, 50);
        for (int side : Wrong.SIDES) {
            check.due("node(" + side + ")", bench.node(side), BAD);
        }
    }

    static void promise02FullThereAre50Left(Check check) {
        full(check, 0);
    }

    static void promise02FullThereAre50Right(Check check) {
        full(check, 1);
    }

    private static void full(Check check, int side) {
        PairBench bench = new PairBench();
        for (int i = 0; i < 50; i++) {
            check.due("node(" + side + ")", bench.node(side), i);
        }
        for (int i = 0; i < 3; i++) {
            check.due("node(" + side + ") when there are 50", bench.node(side), FULL);
        }
        check.due("there are 50 yet", bench.count(side), 50);
        check.due("the last one is a node", bench.part(side, 49), side == 0 ? 0 : 2);
        check.due("the refused one is none", bench.part(side, 50), BAD);
    }

    static void promise02EachSideIsFullForItself(Check check) {
        PairBench bench = Build.nodes(50, 0);
        check.due("node(1) beside 50 left ones", bench.node(1), 0);
        check.due("node(0) still", bench.node(0), FULL);
        PairBench other = Build.nodes(3, 50);
        check.due("node(0) beside 50 right ones", other.node(0), 3);
        check.due("node(1) still", other.node(1), FULL);
    }

    static void promise02FullChangesNothing(Check check) {
        PairBench bench = Build.lonePairs(50);
        bench.node(0);
        bench.node(1);
        check.due("left nodes", bench.count(0), 50);
        check.due("right nodes", bench.count(1), 50);
        check.due("edges", bench.count(2), 50);
        check.due("SIZE", bench.count(3), 50);
        check.due("LACK", bench.count(4), 0);
        check.due("nodes of part 1", bench.count(6), 100);
        check.due("has(49, 49)", bench.has(49, 49), true);
        check.due("has(0, 0)", bench.has(0, 0), true);
    }

    static void promise02NotFullByThings(Check check) {
        PairBench bench = Build.things(40);
        check.due("thing()", bench.thing(), FULL);
        check.due("node(0)", bench.node(0), 0);
        check.due("node(1)", bench.node(1), 0);
        Build.addNodes(bench, 39, 39);
        check.due("the 41st left node", bench.node(0), 40);
        check.due("the 41st right node", bench.node(1), 40);
    }

    static void promise02NewNodeHasNoEdge(Check check) {
        PairBench bench = Build.complete(3, 3);
        check.due("SIZE", bench.count(3), 3);
        check.due("node(0)", bench.node(0), 3);
        check.due("node(1)", bench.node(1), 3);
        for (int i = 0; i <= 3; i++) {
            check.due("has(3, " + i + ")", bench.has(3, i), false);
            check.due("has(" + i + ", 3)", bench.has(i, 3), false);
        }
        check.due("edges", bench.count(2), 9);
    }
}
