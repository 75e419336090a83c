/** Promise 20, clearThings(): "Things go: how many there were". */
public final class Promise20ClearThingsTest {
    private static final int BAD = PairBench.BAD;

    public static void main(String[] args) {
        Sentences.run(Promise20ClearThingsTest.class);
    }

    static void promise20HowManyThereWere(Check check) {
        check.due("none", new PairBench().clearThings(), 0);
        check.due("one", Build.things(1).clearThings(), 1);
        check.due("a line of five", Build.line(5).clearThings(), 5);
        check.due("nodes are not counted", Build.threeParts().clearThings(), 0);
    }

    static void promise20FullOfThings(Check check) {
        PairBench bench = Build.line(40);
        bench.thing();
        check.due("40, a refused one is not counted", bench.clearThings(), 40);
        for (int i = 0; i < 40; i++) {
            check.due("thing() anew", bench.thing(), i);
        }
        check.due("thing() when there are 40 again", bench.thing(), PairBench.FULL);
        check.due("all apart", bench.count(10), 40);
        check.due("once more", bench.clearThings(), 40);
    }

    static void promise20NoneWhenClearedTwice(Check check) {
        PairBench bench = Build.diamond();
        check.due("clearThings()", bench.clearThings(), 5);
        check.due("clearThings() again", bench.clearThings(), 0);
        check.due("and again", bench.clearThings(), 0);
    }

    static void promise20ThingsGo(Check check) {
        PairBench bench = Build.diamond();
        bench.about(0, 0);
        bench.clearThings();
        for (int what = 9; what <= 11; what++) {
            check.due("count(" + what + ")", bench.count(what), 0);
        }
        for (int what = 0; what <= 4; what++) {
            check.due("about(0, " + what + ")", bench.about(0, what), BAD);
        }
        check.due("below(3, 0)", bench.below(3, 0), false);
        check.due("tell(3, 0)", bench.tell(3, 0), BAD);
        check.due("tell(0, 0)", bench.tell(0, 0), BAD);
    }

    static void promise20WhatWasToldGoes(Check check) {
        PairBench bench = Build.line(3);
        bench.clearThings();
        Build.addThings(bench, 3);
        check.due("below(0, 1)", bench.below(0, 1), false);
        check.due("below(0, 2)", bench.below(0, 2), false);
        check.due("WIDTH of new things", bench.count(10), 3);
        check.due("levels of new things", bench.count(11), 1);
        check.due("the other way is new", bench.tell(2, 0), 1);
        check.due("between them nothing follows", bench.tell(2, 1), 1);
    }

    static void promise20LikeANewObjectAfterwards(Check check) {
        PairBench used = Build.line(8);
        used.about(0, 0);
        used.clearThings();
        Build.addThings(used, 5, 3, 1, 1, 0, 3, 4, 4, 0);
        check.due("a diamond on a cleared bench", Look.things(used), Look.things(Build.diamond()));
    }

    static void promise20TheGraphStays(Check check) {
        PairBench bench = Build.both();
        String before = Look.graph(bench);
        check.due("clearThings()", bench.clearThings(), 5);
        check.due("the graph", Look.graph(bench), before);
    }
}
