/** Promise 4, count(what): "(11; 0 without things). BAD", and what each count is of nothing and of all there can be. */
public final class Promise04CountTest {
    private static final int BAD = PairBench.BAD;

    public static void main(String[] args) {
        Sentences.run(Promise04CountTest.class);
    }

    private static void counts(Check check, String name, PairBench bench, int first, int... want) {
        for (int i = 0; i < want.length; i++) {
            check.due(name + ": count(" + (first + i) + ")", bench.count(first + i), want[i]);
        }
    }

    static void promise04BadNoSuchWhat(Check check) {
        PairBench bench = Build.both();
        for (int what : Wrong.beside(12)) {
            check.due("count(" + what + ")", bench.count(what), BAD);
        }
        check.due("count(11) is one yet", bench.count(11), 3);
        check.due("count(0) too", bench.count(0), 6);
    }

    static void promise04BadOnANewObject(Check check) {
        PairBench bench = new PairBench();
        for (int what : Wrong.beside(12)) {
            check.due("count(" + what + ")", bench.count(what), BAD);
        }
    }

    static void promise04ZeroWithoutThings(Check check) {
        PairBench bench = Build.threeParts();
        check.due("count(11) of nodes alone", bench.count(11), 0);
        check.due("count(10) of nodes alone", bench.count(10), 0);
        check.due("count(9) of nodes alone", bench.count(9), 0);
        bench.thing();
        check.due("count(11) of one thing", bench.count(11), 1);
        bench.clearThings();
        check.due("count(11) when things have gone", bench.count(11), 0);
        check.due("count(10) when things have gone", bench.count(10), 0);
    }

    static void promise04GreatestLevelAndOne(Check check) {
        check.due("apart", Build.things(3).count(11), 1);
        check.due("two in line", Build.line(2).count(11), 2);
        check.due("40 in line", Build.line(40).count(11), 40);
        check.due("40 apart", Build.things(40).count(11), 1);
    }

    static void promise04WidthOfAllThingsThereCanBe(Check check) {
        check.due("one thing", Build.things(1).count(10), 1);
        check.due("40 in line", Build.line(40).count(10), 1);
        check.due("40 apart", Build.things(40).count(10), 40);
        check.due("40 things", Build.things(40).count(9), 40);
    }

    static void promise04WithoutNodes(Check check) {
        counts(check, "things alone", Build.diamond(), 0, 0, 0, 0, 0, 0, 0, 0, 0, 0, 5, 3, 3);
    }

    static void promise04WithoutEdges(Check check) {
        counts(check, "3 and 2", Build.nodes(3, 2), 0, 3, 2, 0, 0, 3, 3, 0, 2, 0);
        counts(check, "50 and 50", Build.nodes(50, 50), 0, 50, 50, 0, 0, 50, 50, 0, 50, 0);
        PairBench bench = Build.lonePairs(2);
        counts(check, "two edges", bench, 2, 2, 2, 0, 0, 4, 0, 2);
        bench.edge(0, 0, false);
        bench.edge(1, 1, false);
        counts(check, "both edges gone", bench, 2, 0, 0, 2, 2, 0, 2, 0);
    }

    static void promise04WithoutRightNodes(Check check) {
        counts(check, "4 and 0", Build.nodes(4, 0), 0, 4, 0, 0, 0, 4, 4, 0, 0, 0);
        counts(check, "50 and 0", Build.nodes(50, 0), 0, 50, 0, 0, 0, 50, 50, 0, 0, 0);
    }

    static void promise04WithoutLeftNodes(Check check) {
        counts(check, "0 and 4", Build.nodes(0, 4), 0, 0, 4, 0, 0, 0, 0, 0, 4, 0);
        counts(check, "0 and 50", Build.nodes(0, 50), 0, 0, 50, 0, 0, 0, 0, 0, 50, 0);
    }

    static void promise04LackIsZeroAtLeast(Check check) {
        check.due("more right nodes", Build.complete(2, 5).count(4), 0);
        check.due("as many", Build.lonePairs(3).count(4), 0);
        check.due("one lacks, right nodes are more", Build.graph(2, 4, 0, 0, 1, 0).count(4), 1);
    }

    static void promise04PartsBothSidesTogether(Check check) {
        counts(check, "three parts", Build.threeParts(), 5, 3, 6, 3);
        counts(check, "all in part 0", Build.complete(3, 2), 5, 5, 0, 0);
        counts(check, "all in part 1", Build.complete(3, 3), 5, 0, 6, 0);
        counts(check, "all in part 2", Build.complete(2, 3), 5, 0, 0, 5);
    }

    static void promise04FullSides(Check check) {
        counts(check, "50 lone pairs", Build.lonePairs(50), 0, 50, 50, 50, 50, 0, 0, 100, 0, 50);
        PairBench ring = Build.lonePairs(50);
        for (int i = 0; i < 50; i++) {
            ring.edge(i, (i + 1) % 50, true);
        }
        counts(check, "a ring of 100", ring, 0, 50, 50, 100, 50, 0, 0, 100, 0, 1);
        PairBench star = Build.nodes(50, 50);
        for (int i = 0; i < 50; i++) {
            star.edge(i, 49, true);
        }
        counts(check, "all to right 49", star, 0, 50, 50, 50, 1, 49, 51, 0, 49, 0);
    }
}
