/** Promise 10, hall(which, left): "BAD", and of the terms that the LACK "is 0 at least, for the empty one". */
public final class Promise10HallTest {
    private static final int BAD = PairBench.BAD;

    public static void main(String[] args) {
        Sentences.run(Promise10HallTest.class);
    }

    private static void hall(Check check, String name, PairBench bench, int which, int... want) {
        for (int left = 0; left < want.length; left++) {
            check.due(name + ": hall(" + which + ", " + left + ")", bench.hall(which, left), want[left]);
        }
    }

    static void promise10BadNoSuchHall(Check check) {
        PairBench bench = Build.lonePairs(3);
        for (int which : Wrong.SIDES) {
            check.due("hall(" + which + ", 0)", bench.hall(which, 0), BAD);
            check.due("hall(" + which + ", 2)", bench.hall(which, 2), BAD);
        }
    }

    static void promise10BadNoSuchLeftNode(Check check) {
        PairBench bench = Build.complete(3, 5);
        for (int left : Wrong.beside(3)) {
            check.due("hall(0, " + left + ")", bench.hall(0, left), BAD);
            check.due("hall(1, " + left + ")", bench.hall(1, left), BAD);
        }
    }

    static void promise10BadWithoutLeftNodes(Check check) {
        PairBench bench = Build.nodes(0, 3);
        check.due("hall(0, 0)", bench.hall(0, 0), BAD);
        check.due("hall(1, 0)", bench.hall(1, 0), BAD);
    }

    static void promise10BadBesideFullSides(Check check) {
        PairBench bench = Build.nodes(50, 50);
        check.due("hall(0, 49)", bench.hall(0, 49), 1);
        check.due("hall(0, 50)", bench.hall(0, 50), BAD);
        check.due("hall(1, 50)", bench.hall(1, 50), BAD);
    }

    static void promise10Hall0IsEmptyWhereNothingLacks(Check check) {
        hall(check, "two pairs", Build.lonePairs(2), 0, 0, 0);
        hall(check, "more rights", Build.complete(2, 3), 0, 0, 0);
    }

    static void promise10Hall1IsEmptyWhereEverySetFindsMore(Check check) {
        hall(check, "more rights", Build.complete(2, 3), 1, 0, 0);
        hall(check, "one left, two rights", Build.complete(1, 2), 1, 0);
    }

    static void promise10Hall1HoldsAllOthers(Check check) {
        hall(check, "two pairs", Build.lonePairs(2), 1, 1, 1);
        hall(check, "a pair beside a fan", Build.graph(2, 3, 0, 0, 1, 1, 1, 2), 1, 1, 0);
    }

    static void promise10WithoutEdgesItIsAllLeftNodes(Check check) {
        hall(check, "no edges", Build.nodes(3, 2), 0, 1, 1, 1);
        hall(check, "no edges", Build.nodes(3, 2), 1, 1, 1, 1);
        hall(check, "no right nodes", Build.nodes(2, 0), 0, 1, 1);
        hall(check, "no right nodes", Build.nodes(2, 0), 1, 1, 1);
    }

    static void promise10BothWhereSomeLack(Check check) {
        PairBench bench = Build.graph(4, 2, 0, 0, 1, 0, 2, 1);
        hall(check, "left 3 bare, 0 and 1 share, 2 even", bench, 0, 1, 1, 0, 1);
        hall(check, "left 3 bare, 0 and 1 share, 2 even", bench, 1, 1, 1, 1, 1);
    }
}
