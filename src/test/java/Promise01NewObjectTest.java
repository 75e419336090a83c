/** Promise 1, PairBench(): an object on which nothing has been done yet. */
public final class Promise01NewObjectTest {
    private static final int BAD = PairBench.BAD;

    public static void main(String[] args) {
        Sentences.run(Promise01NewObjectTest.class);
    }

    static void promise01NoNodes(Check check) {
        PairBench bench = new PairBench();
        check.due("count(0)", bench.count(0), 0);
        check.due("count(1)", bench.count(1), 0);
        for (int side = 0; side <= 1; side++) {
            check.due("partner(" + side + ", 0)", bench.partner(side, 0), BAD);
            check.due("nodeIs(" + side + ", 0)", bench.nodeIs(side, 0), BAD);
            check.due("part(" + side + ", 0)", bench.part(side, 0), BAD);
            check.due("block(" + side + ", 0)", bench.block(side, 0), BAD);
            check.due("cover(0, " + side + ", 0)", bench.cover(0, side, 0), BAD);
            check.due("cover(1, " + side + ", 0)", bench.cover(1, side, 0), BAD);
        }
        check.due("hall(0, 0)", bench.hall(0, 0), BAD);
        check.due("hall(1, 0)", bench.hall(1, 0), BAD);
    }

    static void promise01NoEdges(Check check) {
        PairBench bench = new PairBench();
        check.due("count(2)", bench.count(2), 0);
        check.due("has(0, 0)", bench.has(0, 0), false);
        check.due("edgeIs(0, 0)", bench.edgeIs(0, 0), BAD);
        check.due("edge(0, 0, true)", bench.edge(0, 0, true), BAD);
        check.due("edge(0, 0, false)", bench.edge(0, 0, false), BAD);
    }

    static void promise01NothingToFind(Check check) {
        PairBench bench = new PairBench();
        for (int what = 3; what <= 8; what++) {
            check.due("count(" + what + ")", bench.count(what), 0);
        }
        check.due("leads(0, 0)", bench.leads(0, 0), BAD);
        check.due("the empty pairing alone", bench.pairings(), 1);
    }

    static void promise01NoThings(Check check) {
        PairBench bench = new PairBench();
        for (int what = 9; what <= 11; what++) {
            check.due("count(" + what + ")", bench.count(what), 0);
        }
        for (int what = 0; what <= 4; what++) {
            check.due("about(0, " + what + ")", bench.about(0, what), BAD);
        }
        check.due("below(0, 0)", bench.below(0, 0), false);
        check.due("below(0, 1)", bench.below(0, 1), false);
        check.due("tell(0, 1)", bench.tell(0, 1), BAD);
        check.due("tell(0, 0)", bench.tell(0, 0), BAD);
    }

    static void promise01NothingToClear(Check check) {
        PairBench bench = new PairBench();
        check.due("clearGraph()", bench.clearGraph(), 0);
        check.due("clearThings()", bench.clearThings(), 0);
        check.due("count(0)", bench.count(0), 0);
        check.due("count(9)", bench.count(9), 0);
    }

    static void promise01NumbersBeginAt0(Check check) {
        PairBench bench = new PairBench();
        check.due("node(0)", bench.node(0), 0);
        check.due("node(1)", bench.node(1), 0);
        check.due("thing()", bench.thing(), 0);
    }

    static void promise01EachObjectForItself(Check check) {
        PairBench used = Build.both();
        PairBench bench = new PairBench();
        check.due("clearGraph() of a new object", bench.clearGraph(), 0);
        check.due("clearThings() of a new object", bench.clearThings(), 0);
        check.due("nodes of the used one", used.count(0) + used.count(1), 12);
        check.due("things of the used one", used.count(9), 5);
        bench.node(0);
        bench.thing();
        check.due("left nodes of the used one", used.count(0), 6);
        check.due("things of the used one", used.count(9), 5);
    }
}
