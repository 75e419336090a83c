/** "An object is used for at most 512 calls after it has been made": each promise holds up to the 512th call. */
public final class Calls512Test {
    private static final int BAD = PairBench.BAD;
    private static final int NO = PairBench.NO;
    private static final int FULL = PairBench.FULL;
    private static final int MOST_CALLS = 512;

    public static void main(String[] args) {
        Sentences.run(Calls512Test.class);
    }

    /** A bench after 511 calls, of which the last 35 cleared it and put three parts and the diamond on it. */
    private static PairBench worn() {
        PairBench bench = new PairBench();
        for (int call = 0; call < MOST_CALLS - 1 - 35; call++) {
            wear(bench, call);
        }
        bench.clearGraph();
        bench.clearThings();
        Build.addNodes(bench, 6, 6);
        Build.addEdges(bench, 0, 0, 1, 0, 2, 0, 2, 1, 2, 2, 3, 1, 3, 2, 4, 2, 4, 3, 5, 3, 5, 4, 5, 5);
        Build.addThings(bench, 5, 3, 1, 1, 0, 3, 4, 4, 0);
        return bench;
    }

    /** Calls of all kinds, right ones and wrong ones, one after the other. */
    private static void wear(PairBench bench, int call) {
        int a = call * 7 % 11 - 1;
        int b = call * 5 % 13 - 1;
        switch (call % 16) {
            case 0: bench.node(0); break;
            case 1: bench.node(1); break;
            case 2: bench.thing(); break;
            case 3: bench.edge(a, b, true); break;
            case 4: bench.tell(a, b); break;
            case 5: bench.partner(call % 2, a); break;
            case 6: bench.edge(b, a, call % 3 > 0); break;
            case 7: bench.edgeIs(a, b); break;
            case 8: bench.about(a, b); break;
            case 9: bench.cover(call % 3, call % 2, a); break;
            case 10: bench.leads(a, b); break;
            case 11: bench.pairings(); break;
            case 12: bench.count(b); break;
            case 13: bench.block(call % 2, a); break;
            case 14: bench.edge(a, b, true); break;
            default: bench.hall(call % 2, b); break;
        }
    }

    static void promise02Node(Check check) {
        check.due("node(0)", worn().node(0), 6);
        check.due("node(1)", worn().node(1), 6);
        check.due("node(2)", worn().node(2), BAD);
    }

    static void promise02NodeAllTheTime(Check check) {
        for (int side = 0; side <= 1; side++) {
            PairBench bench = new PairBench();
            for (int call = 0; call < MOST_CALLS; call++) {
                check.due("node(" + side + "), call " + call, bench.node(side), call < 50 ? call : FULL);
            }
        }
    }

    static void promise03Edge(Check check) {
        check.due("edge(0, 1, true)", worn().edge(0, 1, true), 1);
        check.due("edge(0, 0, true)", worn().edge(0, 0, true), 0);
        check.due("edge(0, 0, false)", worn().edge(0, 0, false), 1);
        check.due("edge(0, 1, false)", worn().edge(0, 1, false), 0);
        check.due("edge(0, 6, true)", worn().edge(0, 6, true), BAD);
    }

    static void promise03EdgeAllTheTime(Check check) {
        PairBench bench = Build.nodes(1, 1);
        for (int call = 2; call < MOST_CALLS; call++) {
            check.due("edge(0, 0, ..), call " + call, bench.edge(0, 0, call % 2 == 0), 1);
        }
    }

    static void promise04Count(Check check) {
        int[] want = {6, 6, 12, 5, 1, 3, 6, 3, 2, 5, 3, 3, BAD};
        for (int what = 0; what < want.length; what++) {
            check.due("count(" + what + ")", worn().count(what), want[what]);
        }
    }

    static void promise04CountAfterEachChange(Check check) {
        PairBench bench = Build.lonePairs(4);
        for (int call = 12; call < MOST_CALLS; call += 4) {
            bench.edge(3, 3, false);
            check.due("SIZE, call " + call, bench.count(3), 3);
            bench.edge(3, 3, true);
            check.due("SIZE, call " + call, bench.count(3), 4);
        }
    }

    static void promise05Has(Check check) {
        check.due("has(5, 5)", worn().has(5, 5), true);
        check.due("has(5, 0)", worn().has(5, 0), false);
        check.due("has(6, 0)", worn().has(6, 0), false);
    }

    static void promise06Partner(Check check) {
        check.due("partner(0, 3)", worn().partner(0, 3), 2);
        check.due("partner(0, 1)", worn().partner(0, 1), NO);
        check.due("partner(1, 6)", worn().partner(1, 6), BAD);
    }

    static void promise07EdgeIs(Check check) {
        check.due("edgeIs(4, 3)", worn().edgeIs(4, 3), 2);
        check.due("edgeIs(3, 2)", worn().edgeIs(3, 2), 1);
        check.due("edgeIs(4, 2)", worn().edgeIs(4, 2), 0);
        check.due("edgeIs(4, 4)", worn().edgeIs(4, 4), BAD);
    }

    static void promise08NodeIs(Check check) {
        check.due("nodeIs(0, 0)", worn().nodeIs(0, 0), 0);
        check.due("nodeIs(1, 0)", worn().nodeIs(1, 0), 1);
        check.due("nodeIs(0, 6)", worn().nodeIs(0, 6), BAD);
    }

    static void promise09Cover(Check check) {
        check.due("cover(0, 0, 2)", worn().cover(0, 0, 2), 1);
        check.due("cover(1, 0, 2)", worn().cover(1, 0, 2), 0);
        check.due("cover(2, 0, 2)", worn().cover(2, 0, 2), BAD);
    }

    static void promise10Hall(Check check) {
        check.due("hall(0, 4)", worn().hall(0, 4), 0);
        check.due("hall(1, 4)", worn().hall(1, 4), 1);
        check.due("hall(1, 6)", worn().hall(1, 6), BAD);
    }

    static void promise11Part(Check check) {
        check.due("part(0, 1)", worn().part(0, 1), 0);
        check.due("part(1, 1)", worn().part(1, 1), 1);
        check.due("part(0, 5)", worn().part(0, 5), 2);
        check.due("part(2, 0)", worn().part(2, 0), BAD);
    }

    static void promise12Block(Check check) {
        check.due("block(0, 4)", worn().block(0, 4), 1);
        check.due("block(1, 0)", worn().block(1, 0), NO);
        check.due("block(0, 6)", worn().block(0, 6), BAD);
    }

    static void promise13Leads(Check check) {
        check.due("leads(1, 0)", worn().leads(1, 0), 1);
        check.due("leads(0, 1)", worn().leads(0, 1), 0);
        check.due("leads(1, 1)", worn().leads(1, 1), 0);
        check.due("leads(0, 2)", worn().leads(0, 2), BAD);
    }

    static void promise14Pairings(Check check) {
        check.due("pairings()", worn().pairings(), 8);
    }

    static void promise14PairingsAfterEachChange(Check check) {
        PairBench bench = Build.complete(2, 8);
        for (int call = 26; call < MOST_CALLS; call += 2) {
            boolean there = call % 4 == 0;
            bench.edge(1, 7, there);
            check.due("pairings(), call " + call, bench.pairings(), there ? 56 : 49);
        }
    }

    static void promise15Thing(Check check) {
        check.due("thing()", worn().thing(), 5);
    }

    static void promise15ThingAllTheTime(Check check) {
        PairBench bench = new PairBench();
        for (int call = 0; call < MOST_CALLS; call++) {
            check.due("thing(), call " + call, bench.thing(), call < 40 ? call : FULL);
        }
    }

    static void promise16Tell(Check check) {
        check.due("tell(2, 3)", worn().tell(2, 3), 1);
        check.due("tell(3, 0)", worn().tell(3, 0), 0);
        check.due("tell(0, 3)", worn().tell(0, 3), NO);
        check.due("tell(5, 0)", worn().tell(5, 0), BAD);
    }

    static void promise17Below(Check check) {
        check.due("below(3, 0)", worn().below(3, 0), true);
        check.due("below(0, 3)", worn().below(0, 3), false);
        check.due("below(5, 0)", worn().below(5, 0), false);
    }

    static void promise18About(Check check) {
        int[] want = {1, 1, 0, 0, 0, BAD};
        for (int what = 0; what < want.length; what++) {
            check.due("about(3, " + what + ")", worn().about(3, what), want[what]);
        }
        check.due("about(2, 1)", worn().about(2, 1), NO);
        check.due("about(5, 0)", worn().about(5, 0), BAD);
    }

    static void promise19ClearGraph(Check check) {
        check.due("clearGraph()", worn().clearGraph(), 12);
    }

    static void promise19ClearGraphAllTheTime(Check check) {
        PairBench bench = new PairBench();
        for (int call = 0; call < MOST_CALLS - 3; call += 4) {
            bench.node(0);
            bench.node(1);
            bench.edge(0, 0, true);
            check.due("clearGraph(), call " + call, bench.clearGraph(), 2);
        }
    }

    static void promise20ClearThings(Check check) {
        check.due("clearThings()", worn().clearThings(), 5);
    }

    static void promise20ClearThingsAllTheTime(Check check) {
        PairBench bench = new PairBench();
        for (int call = 0; call < MOST_CALLS - 3; call += 4) {
            bench.thing();
            bench.thing();
            check.due("tell(0, 1), call " + call, bench.tell(0, 1), 1);
            check.due("clearThings(), call " + call, bench.clearThings(), 2);
        }
    }
}
