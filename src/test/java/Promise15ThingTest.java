/** Promise 15, thing(): "FULL: there are 40". */
public final class Promise15ThingTest {
    private static final int FULL = PairBench.FULL;

    public static void main(String[] args) {
        Sentences.run(Promise15ThingTest.class);
    }

    static void promise15FullThereAre40(Check check) {
        PairBench bench = new PairBench();
        for (int i = 0; i < 40; i++) {
            check.due("thing()", bench.thing(), i);
        }
        for (int i = 0; i < 3; i++) {
            check.due("thing() when there are 40", bench.thing(), FULL);
        }
        check.due("there are 40 yet", bench.count(9), 40);
        check.due("the last one is a thing", bench.about(39, 2), 0);
        check.due("the refused one is none", bench.about(40, 2), PairBench.BAD);
    }

    static void promise15FullChangesNothing(Check check) {
        PairBench bench = Build.line(40);
        check.due("thing()", bench.thing(), FULL);
        check.due("things", bench.count(9), 40);
        check.due("WIDTH", bench.count(10), 1);
        check.due("levels", bench.count(11), 40);
        check.due("below(0, 39)", bench.below(0, 39), true);
        check.due("about(39, 1)", bench.about(39, 1), PairBench.NO);
    }

    static void promise15FullAsIsTheGraph(Check check) {
        PairBench bench = Build.nodes(50, 50);
        check.due("node(0)", bench.node(0), FULL);
        check.due("thing() beside 100 nodes", bench.thing(), 0);
        check.due("thing() once more", bench.thing(), 1);
        check.due("left nodes", bench.count(0), 50);
    }

    static void promise15FullIsOverWhenCleared(Check check) {
        PairBench bench = Build.things(40);
        check.due("thing()", bench.thing(), FULL);
        bench.clearThings();
        for (int i = 0; i < 40; i++) {
            check.due("thing() anew", bench.thing(), i);
        }
        check.due("thing() when there are 40 again", bench.thing(), FULL);
    }

    static void promise15NewThingIsApart(Check check) {
        PairBench bench = Build.line(3);
        check.due("WIDTH", bench.count(10), 1);
        check.due("thing()", bench.thing(), 3);
        for (int i = 0; i <= 3; i++) {
            check.due("below(3, " + i + ")", bench.below(3, i), false);
            check.due("below(" + i + ", 3)", bench.below(i, 3), false);
        }
        check.due("WIDTH", bench.count(10), 2);
        check.due("levels", bench.count(11), 3);
    }
}
