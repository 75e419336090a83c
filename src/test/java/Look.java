/** All that a bench answers, in one text, so that what was before a call can be held against what is after it. */
final class Look {
    private Look() {
    }

    static String at(PairBench bench) {
        return graph(bench) + "; " + things(bench);
    }

    static String graph(PairBench bench) {
        StringBuilder text = new StringBuilder();
        for (int what = 0; what <= 8; what++) {
            text.append(what == 0 ? "counts " : ",").append(bench.count(what));
        }
        text.append(" pairings ").append(bench.pairings());
        for (int side = 0; side <= 1; side++) {
            int end = bench.count(side);
            for (int node = 0; node < end; node++) {
                text.append(side == 0 ? " left " : " right ").append(node).append(':').append(node(bench, side, node));
            }
        }
        return text.append(edges(bench)).toString();
    }

    private static String node(PairBench bench, int side, int node) {
        return bench.partner(side, node) + "," + bench.nodeIs(side, node) + "," + bench.cover(0, side, node) + ","
                + bench.cover(1, side, node) + "," + bench.part(side, node) + "," + bench.block(side, node)
                + (side == 0 ? "," + bench.hall(0, node) + "," + bench.hall(1, node) : "");
    }

    private static String edges(PairBench bench) {
        StringBuilder text = new StringBuilder(" edges");
        int lefts = bench.count(0);
        int rights = bench.count(1);
        for (int left = 0; left < lefts; left++) {
            for (int right = 0; right < rights; right++) {
                if (bench.has(left, right)) {
                    text.append(' ').append(left).append('-').append(right).append(':');
                    text.append(bench.edgeIs(left, right));
                }
            }
        }
        return text.toString();
    }

    static String things(PairBench bench) {
        int things = bench.count(9);
        StringBuilder text = new StringBuilder("things " + things + "," + bench.count(10) + "," + bench.count(11));
        for (int thing = 0; thing < things; thing++) {
            text.append(' ').append(thing).append(':');
            for (int what = 0; what <= 4; what++) {
                text.append(what == 0 ? "" : ",").append(bench.about(thing, what));
            }
            for (int other = 0; other < things; other++) {
                text.append(bench.below(thing, other) ? " below " + other : "");
            }
        }
        return text.toString();
    }
}
