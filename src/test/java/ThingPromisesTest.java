/** Promises 15 to 18 and 20, one after the other: ordinary inputs, the edges that the document names, wrong inputs. */
public final class ThingPromisesTest {
    private static final Check CHECK = new Check();
    private static final int BAD = PairBench.BAD;
    private static final int NO = PairBench.NO;
    private static final int[] FAR = {-1, -2, 40, 41, 63, 64, 1000, Integer.MAX_VALUE, Integer.MIN_VALUE};

    public static void main(String[] args) {
        promise15Thing();
        promise16Tell();
        promise17Below();
        promise18About();
        promise18AboutAntichains();
        promise18AboutLongChains();
        promise20ClearThings();
        wrongThingsEverywhere();
        CHECK.end("ThingPromisesTest");
    }

    private static void about(String name, PairBench bench, int what, int... want) {
        CHECK.due(name + " things", bench.count(9), want.length);
        for (int thing = 0; thing < want.length; thing++) {
            CHECK.due(name + " about(" + thing + ", " + what + ")", bench.about(thing, what), want[thing]);
        }
    }

    private static void promise15Thing() {
        PairBench bench = new PairBench();
        for (int i = 0; i < 40; i++) {
            CHECK.due("thing()", bench.thing(), i);
        }
        CHECK.due("the 41st", bench.thing(), PairBench.FULL);
        CHECK.due("and again", bench.thing(), PairBench.FULL);
        CHECK.due("things", bench.count(9), 40);
        CHECK.due("width", bench.count(10), 40);
        CHECK.due("no nodes by things", bench.count(0) + bench.count(1), 0);
        PairBench grown = Build.things(2, 0, 1);
        CHECK.due("one chain", grown.count(10), 1);
        CHECK.due("a thing more", grown.thing(), 2);
        CHECK.due("two chains", grown.count(10), 2);
        CHECK.due("it begins one", grown.about(2, 0), 1);
        CHECK.due("tell(39, 0)", bench.tell(39, 0), 1);
        CHECK.due("below(39, 0)", bench.below(39, 0), true);
    }

    private static void promise16Tell() {
        PairBench bench = Build.things(5);
        CHECK.due("tell(0, 1)", bench.tell(0, 1), 1);
        CHECK.due("tell(0, 1) again", bench.tell(0, 1), 0);
        CHECK.due("tell(1, 0)", bench.tell(1, 0), NO);
        CHECK.due("tell(2, 3)", bench.tell(2, 3), 1);
        CHECK.due("tell(1, 2) joins both", bench.tell(1, 2), 1);
        CHECK.due("tell(0, 3) follows", bench.tell(0, 3), 0);
        CHECK.due("tell(3, 0) would go round", bench.tell(3, 0), NO);
        CHECK.due("tell(4, 4)", bench.tell(4, 4), NO);
        CHECK.due("tell(5, 5)", bench.tell(5, 5), BAD);
        CHECK.due("tell(5, 0)", bench.tell(5, 0), BAD);
        CHECK.due("tell(0, 5)", bench.tell(0, 5), BAD);
        CHECK.due("tell(-1, 0)", bench.tell(-1, 0), BAD);
        CHECK.due("tell(4, 0)", bench.tell(4, 0), 1);
        CHECK.due("tell(4, 3) follows", bench.tell(4, 3), 0);
    }

    private static void promise17Below() {
        PairBench bench = Build.things(6, 0, 1, 2, 3, 1, 2, 4, 1);
        boolean[][] want = new boolean[6][6];
        int[][] pairs = {{0, 1}, {0, 2}, {0, 3}, {1, 2}, {1, 3}, {2, 3}, {4, 1}, {4, 2}, {4, 3}};
        for (int[] pair : pairs) {
            want[pair[0]][pair[1]] = true;
        }
        for (int a = 0; a < 6; a++) {
            for (int b = 0; b < 6; b++) {
                CHECK.due("below(" + a + ", " + b + ")", bench.below(a, b), want[a][b]);
            }
        }
        CHECK.due("below(0, 65)", bench.below(0, 65), false);
        CHECK.due("below(0, 6)", bench.below(0, 6), false);
        CHECK.due("below(6, 1)", bench.below(6, 1), false);
    }

    private static void promise18About() {
        PairBench bench = Build.diamond();
        CHECK.due("width", bench.count(10), 3);
        CHECK.due("levels", bench.count(11), 3);
        about("diamond chain", bench, 0, 1, 1, 0, 1, 2);
        about("diamond next", bench, 1, NO, 0, NO, 1, NO);
        about("diamond level", bench, 2, 2, 1, 0, 0, 1);
        for (int what : new int[] {-1, 5, 6, Integer.MAX_VALUE, Integer.MIN_VALUE}) {
            CHECK.due("about(0, " + what + ")", bench.about(0, what), BAD);
        }
        CHECK.due("about(5, 0)", bench.about(5, 0), BAD);
        CHECK.due("about(-1, 1)", bench.about(-1, 1), BAD);
        bench.tell(2, 3);
        about("level after a change", bench, 2, 3, 2, 0, 1, 2);
        // The best pairing gives 2 the lesser of 1 and 3 as its next, so that 3 begins a chain of its own.
        about("chain after a change", bench, 0, 0, 0, 0, 1, 1);
        about("next after a change", bench, 1, NO, 0, 1, 4, NO);
        PairBench apart = Build.things(3);
        about("apart chain", apart, 0, 0, 1, 2);
        about("apart next", apart, 1, NO, NO, NO);
        about("apart level", apart, 2, 0, 0, 0);
    }

    private static void promise18AboutAntichains() {
        PairBench bench = Build.diamond();
        about("diamond antichain 0", bench, 3, 0, 1, 1, 0, 1);
        about("diamond antichain 1", bench, 4, 0, 1, 1, 0, 1);
        // Two apart chains of two: the low ones and the high ones.
        PairBench two = Build.things(4, 0, 2, 1, 3);
        about("two chains antichain 0", two, 3, 1, 1, 0, 0);
        about("two chains antichain 1", two, 4, 0, 0, 1, 1);
        PairBench line = Build.things(3, 2, 0, 0, 1);
        about("line antichain 0", line, 3, 0, 0, 1);
        about("line antichain 1", line, 4, 0, 1, 0);
        PairBench apart = Build.things(2);
        about("apart antichain 0", apart, 3, 1, 1);
        about("apart antichain 1", apart, 4, 1, 1);
    }

    private static void promise18AboutLongChains() {
        PairBench bench = Build.things(40);
        for (int i = 39; i > 0; i--) {
            CHECK.due("tell", bench.tell(i, i - 1), 1);
        }
        CHECK.due("width of one chain", bench.count(10), 1);
        CHECK.due("levels of one chain", bench.count(11), 40);
        for (int i = 0; i < 40; i++) {
            CHECK.due("chain of " + i, bench.about(i, 0), 0);
            CHECK.due("next of " + i, bench.about(i, 1), i == 0 ? NO : i - 1);
            CHECK.due("level of " + i, bench.about(i, 2), 39 - i);
            CHECK.due("lowest " + i, bench.about(i, 3), i == 39 ? 1 : 0);
            CHECK.due("highest " + i, bench.about(i, 4), i == 0 ? 1 : 0);
        }
    }

    private static void promise20ClearThings() {
        PairBench bench = Build.diamond();
        bench.node(0);
        bench.node(1);
        bench.edge(0, 0, true);
        bench.about(0, 0);
        CHECK.due("clearThings", bench.clearThings(), 5);
        CHECK.due("clearThings again", bench.clearThings(), 0);
        CHECK.due("things", bench.count(9), 0);
        CHECK.due("width", bench.count(10), 0);
        CHECK.due("levels", bench.count(11), 0);
        CHECK.due("the graph stays", bench.has(0, 0), true);
        CHECK.due("its nodes too", bench.clearGraph(), 2);
        CHECK.due("about no thing", bench.about(0, 2), BAD);
        CHECK.due("things begin at 0 again", bench.thing(), 0);
        bench.thing();
        bench.thing();
        bench.thing();
        CHECK.due("what was told is gone", bench.below(3, 1), false);
        CHECK.due("it can be told the other way", bench.tell(1, 3), 1);
        CHECK.due("width", bench.count(10), 3);
        PairBench full = Build.things(40);
        CHECK.due("full clearThings", full.clearThings(), 40);
        CHECK.due("there is room again", full.thing(), 0);
    }

    private static void wrongThingsEverywhere() {
        PairBench bench = Build.diamond();
        for (int far : FAR) {
            CHECK.due("tell lower " + far, bench.tell(far, 0), BAD);
            CHECK.due("tell upper " + far, bench.tell(0, far), BAD);
            CHECK.due("tell both " + far, bench.tell(far, far), BAD);
            CHECK.due("below lower " + far, bench.below(far, 0), false);
            CHECK.due("below upper " + far, bench.below(0, far), false);
            CHECK.due("about what " + far, bench.about(0, far), BAD);
            for (int what = -1; what <= 5; what++) {
                CHECK.due("about " + far, bench.about(far, what), BAD);
            }
        }
        CHECK.due("nothing changed", bench.count(9), 5);
    }
}
