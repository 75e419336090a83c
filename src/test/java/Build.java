/** Benches that several tests begin with. */
final class Build {
    private Build() {
    }

    static PairBench nodes(int lefts, int rights) {
        PairBench bench = new PairBench();
        addNodes(bench, lefts, rights);
        return bench;
    }

    static void addNodes(PairBench bench, int lefts, int rights) {
        for (int i = 0; i < lefts; i++) {
            bench.node(0);
        }
        for (int i = 0; i < rights; i++) {
            bench.node(1);
        }
    }

    /** Edges as left, right, left, right, .. */
    static PairBench graph(int lefts, int rights, int... ends) {
        PairBench bench = nodes(lefts, rights);
        for (int i = 0; i + 1 < ends.length; i += 2) {
            bench.edge(ends[i], ends[i + 1], true);
        }
        return bench;
    }

    /** What is told as lower, upper, lower, upper, .. */
    static PairBench things(int count, int... told) {
        PairBench bench = new PairBench();
        for (int i = 0; i < count; i++) {
            bench.thing();
        }
        for (int i = 0; i + 1 < told.length; i += 2) {
            bench.tell(told[i], told[i + 1]);
        }
        return bench;
    }
}
