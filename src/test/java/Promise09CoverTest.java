/** Promise 9, cover(which, side, node): "BAD: no such cover, side, node", and covers of graphs at the bounds. */
public final class Promise09CoverTest {
    private static final int BAD = PairBench.BAD;

    public static void main(String[] args) {
        Sentences.run(Promise09CoverTest.class);
    }

    private static void cover(Check check, String name, PairBench bench, int which, int side, int... want) {
        for (int node = 0; node < want.length; node++) {
            String call = name + ": cover(" + which + ", " + side + ", " + node + ")";
            check.due(call, bench.cover(which, side, node), want[node]);
        }
    }

    static void promise09BadNoSuchCover(Check check) {
        PairBench bench = Build.lonePairs(3);
        for (int which : Wrong.SIDES) {
            check.due("cover(" + which + ", 0, 0)", bench.cover(which, 0, 0), BAD);
            check.due("cover(" + which + ", 1, 2)", bench.cover(which, 1, 2), BAD);
        }
    }

    static void promise09BadNoSuchSide(Check check) {
        PairBench bench = Build.lonePairs(3);
        for (int side : Wrong.SIDES) {
            check.due("cover(0, " + side + ", 0)", bench.cover(0, side, 0), BAD);
            check.due("cover(1, " + side + ", 2)", bench.cover(1, side, 2), BAD);
        }
    }

    static void promise09BadNoSuchLeftNode(Check check) {
        PairBench bench = Build.complete(3, 5);
        for (int node : Wrong.beside(3)) {
            check.due("cover(0, 0, " + node + ")", bench.cover(0, 0, node), BAD);
            check.due("cover(1, 0, " + node + ")", bench.cover(1, 0, node), BAD);
        }
    }

    static void promise09BadNoSuchRightNode(Check check) {
        PairBench bench = Build.complete(5, 3);
        for (int node : Wrong.beside(3)) {
            check.due("cover(0, 1, " + node + ")", bench.cover(0, 1, node), BAD);
            check.due("cover(1, 1, " + node + ")", bench.cover(1, 1, node), BAD);
        }
    }

    static void promise09BadAllThree(Check check) {
        PairBench bench = Build.lonePairs(3);
        for (int number : Wrong.beside(3)) {
            check.due("cover of " + number + " thrice", bench.cover(number, number, number), BAD);
        }
        check.due("no nodes", new PairBench().cover(0, 0, 0), BAD);
    }

    static void promise09WithoutEdgesItIsTheEmptySet(Check check) {
        PairBench bench = Build.nodes(2, 2);
        for (int which = 0; which <= 1; which++) {
            cover(check, "no edges", bench, which, 0, 0, 0);
            cover(check, "no edges", bench, which, 1, 0, 0);
        }
    }

    static void promise09Cover0HasTheMostLeftNodes(Check check) {
        PairBench bench = Build.lonePairs(2);
        cover(check, "two pairs", bench, 0, 0, 1, 1);
        cover(check, "two pairs", bench, 0, 1, 0, 0);
        PairBench full = Build.lonePairs(50);
        check.due("cover(0, 0, 49)", full.cover(0, 0, 49), 1);
        check.due("cover(0, 1, 49)", full.cover(0, 1, 49), 0);
    }

    static void promise09Cover1HasTheMostRightNodes(Check check) {
        PairBench bench = Build.lonePairs(2);
        cover(check, "two pairs", bench, 1, 0, 0, 0);
        cover(check, "two pairs", bench, 1, 1, 1, 1);
        PairBench full = Build.lonePairs(50);
        check.due("cover(1, 0, 49)", full.cover(1, 0, 49), 0);
        check.due("cover(1, 1, 49)", full.cover(1, 1, 49), 1);
    }

    static void promise09BothAreLeast(Check check) {
        PairBench star = Build.graph(3, 1, 0, 0, 1, 0, 2, 0);
        PairBench fan = Build.graph(1, 3, 0, 0, 0, 1, 0, 2);
        for (int which = 0; which <= 1; which++) {
            cover(check, "three lefts, one right", star, which, 0, 0, 0, 0);
            cover(check, "three lefts, one right", star, which, 1, 1);
            cover(check, "one left, three rights", fan, which, 0, 1);
            cover(check, "one left, three rights", fan, which, 1, 0, 0, 0);
        }
    }
}
