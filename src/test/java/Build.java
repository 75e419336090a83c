/** Benches that several tests begin with. */
final class Build {
    private Build() {
    }

    static PairBench nodes(int lefts, int rights) {
        PairBench bench = new PairBench();
        addNodes(bench, lefts, rights);
        return bench;
    }

    static void addNodes(PairBench bench, int lefts, int rights) {
        for (int i = 0; i < lefts; i++) {
            bench.node(0);
        }
        for (int i = 0; i < rights; i++) {
            bench.node(1);
        }
    }

    /** Edges as left, right, left, right, .. */
    static PairBench graph(int lefts, int rights, int... ends) {
        PairBench bench = nodes(lefts, rights);
        addEdges(bench, ends);
        return bench;
    }

    static void addEdges(PairBench bench, int... ends) {
        for (int i = 0; i + 1 < ends.length; i += 2) {
            bench.edge(ends[i], ends[i + 1], true);
        }
    }

    /** Part 0 is left 0, 1 and right 0; part 1 left 2 to 4 and right 1 to 3; part 2 left 5 and right 4, 5. */
    static PairBench threeParts() {
        return graph(6, 6, 0, 0, 1, 0, 2, 0, 2, 1, 2, 2, 3, 1, 3, 2, 4, 2, 4, 3, 5, 3, 5, 4, 5, 5);
    }

    /** Every left node with an edge to every right one. */
    static PairBench complete(int lefts, int rights) {
        PairBench bench = nodes(lefts, rights);
        for (int left = 0; left < lefts; left++) {
            for (int right = 0; right < rights; right++) {
                bench.edge(left, right, true);
            }
        }
        return bench;
    }

    /** Left 0 with right 0, left 1 with right 1, .. */
    static PairBench lonePairs(int pairs) {
        PairBench bench = nodes(pairs, pairs);
        for (int i = 0; i < pairs; i++) {
            bench.edge(i, i, true);
        }
        return bench;
    }

    /** What is told as lower, upper, lower, upper, .. */
    static PairBench things(int count, int... told) {
        PairBench bench = new PairBench();
        addThings(bench, count, told);
        return bench;
    }

    static void addThings(PairBench bench, int count, int... told) {
        for (int i = 0; i < count; i++) {
            bench.thing();
        }
        for (int i = 0; i + 1 < told.length; i += 2) {
            bench.tell(told[i], told[i + 1]);
        }
    }

    /** 3 below 1 below 0, 3 below 4 below 0, 2 apart. */
    static PairBench diamond() {
        return things(5, 3, 1, 1, 0, 3, 4, 4, 0);
    }

    /** 0 below 1, 1 below 2, .. */
    static PairBench line(int count) {
        PairBench bench = things(count);
        for (int i = 1; i < count; i++) {
            bench.tell(i - 1, i);
        }
        return bench;
    }

    /** Three parts and the diamond on one bench. */
    static PairBench both() {
        PairBench bench = threeParts();
        addThings(bench, 5, 3, 1, 1, 0, 3, 4, 4, 0);
        return bench;
    }
}
