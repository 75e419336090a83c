import java.util.Arrays;
import java.util.HashMap;
import java.util.Map;
import java.util.Random;

/** Graphs up to 50 and 50 and orders up to 40 things, held against slow answers found in other ways. */
public final class LargeTest {
    private static final Check CHECK = new Check();

    public static void main(String[] args) {
        Random dice = new Random(99);
        for (int round = 0; round < 150; round++) {
            graph(20 + dice.nextInt(31), 20 + dice.nextInt(31), 20 + dice.nextInt(180), dice);
        }
        for (int round = 0; round < 20; round++) {
            graph(50, 50, 60 + 10 * round, dice);
        }
        graph(50, 50, 20000, dice);
        graph(50, 49, 20000, dice);
        for (int round = 0; round < 200; round++) {
            pairings(1 + dice.nextInt(16), 1 + dice.nextInt(16), dice.nextInt(45), dice);
        }
        for (int round = 0; round < 60; round++) {
            order(20 + dice.nextInt(21), dice.nextInt(120), dice);
        }
        longestPath();
        CHECK.end("LargeTest");
    }

    /** The last left node gets its one partner only when all others go on to their second ones. */
    private static void longestPath() {
        PairBench bench = Build.nodes(50, 50);
        for (int l = 0; l < 49; l++) {
            bench.edge(l, l, true);
            bench.edge(l, l + 1, true);
        }
        CHECK.due("SIZE before the last edge", bench.count(3), 49);
        CHECK.due("partner of 48 before", bench.partner(0, 48), 48);
        bench.edge(49, 0, true);
        CHECK.due("SIZE after it", bench.count(3), 50);
        for (int l = 0; l < 50; l++) {
            CHECK.due("partner(0, " + l + ")", bench.partner(0, l), l == 49 ? 0 : l + 1);
            CHECK.due("edgeIs(" + l + ")", bench.edgeIs(l, l == 49 ? 0 : l + 1), 2);
        }
        CHECK.due("all are lone pairs", bench.count(8), 50);
        CHECK.due("48 leads over all others to 49", bench.leads(48, 49), 1);
        CHECK.due("49 leads to none", bench.leads(49, 48), 0);
    }

    private static boolean[][] chance(int lefts, int rights, int tries, Random dice) {
        boolean[][] edges = new boolean[lefts][rights];
        for (int i = 0; i < tries; i++) {
            edges[dice.nextInt(lefts)][dice.nextInt(rights)] = true;
        }
        return edges;
    }

    private static PairBench bench(boolean[][] edges, int lefts, int rights) {
        PairBench bench = Build.nodes(lefts, rights);
        for (int l = 0; l < lefts; l++) {
            for (int r = 0; r < rights; r++) {
                if (edges[l][r]) {
                    bench.edge(l, r, true);
                }
            }
        }
        return bench;
    }

    private static void graph(int lefts, int rights, int tries, Random dice) {
        boolean[][] edges = chance(lefts, rights, tries, dice);
        PairBench bench = bench(edges, lefts, rights);
        Slow slow = new Slow(edges, lefts, rights);
        String name = lefts + " and " + rights + ", " + tries + ": ";
        int size = slow.size();
        CHECK.due(name + "SIZE", bench.count(3), size);
        CHECK.due(name + "LACK", bench.count(4), lefts - size);
        int[] best = slow.best();
        for (int l = 0; l < lefts; l++) {
            CHECK.due(name + "partner(0, " + l + ")", bench.partner(0, l), best[l]);
            CHECK.due(name + "nodeIs(0, " + l + ")", bench.nodeIs(0, l), slow.sizeWithout(0, l) < size ? 1 : 0);
        }
        for (int r = 0; r < rights; r++) {
            CHECK.due(name + "partner(1, " + r + ")", bench.partner(1, r), Brute.leftOf(best, r));
            CHECK.due(name + "nodeIs(1, " + r + ")", bench.nodeIs(1, r), slow.sizeWithout(1, r) < size ? 1 : 0);
        }
        for (int i = 0; i < 60; i++) {
            int l = dice.nextInt(lefts);
            int r = dice.nextInt(rights);
            int want = edges[l][r] ? slow.edgeIs(l, r, size) : PairBench.BAD;
            CHECK.due(name + "edgeIs(" + l + ", " + r + ")", bench.edgeIs(l, r), want);
        }
        covers(name, bench, edges, size);
        blocks(name, bench, edges, best);
    }

    /** Both covers have as many nodes as the pairing has pairs and a node of each edge; both halls the same lack. */
    private static void covers(String name, PairBench bench, boolean[][] edges, int size) {
        int lefts = edges.length;
        int rights = edges[0].length;
        for (int which = 0; which <= 1; which++) {
            int nodes = 0;
            int bare = 0;
            int members = 0;
            boolean[] met = new boolean[rights];
            for (int l = 0; l < lefts; l++) {
                nodes += bench.cover(which, 0, l);
                members += bench.hall(which, l);
                for (int r = 0; r < rights; r++) {
                    bare += edges[l][r] && bench.cover(which, 0, l) + bench.cover(which, 1, r) == 0 ? 1 : 0;
                    met[r] |= edges[l][r] && bench.hall(which, l) == 1;
                }
            }
            int partners = 0;
            for (int r = 0; r < rights; r++) {
                nodes += bench.cover(which, 1, r);
                partners += met[r] ? 1 : 0;
            }
            CHECK.due(name + "nodes of cover " + which, nodes, size);
            CHECK.due(name + "edges without cover " + which, bare, 0);
            CHECK.due(name + "lack of hall " + which, members - partners, lefts - size);
        }
    }

    private static void blocks(String name, PairBench bench, boolean[][] edges, int[] best) {
        int lefts = edges.length;
        boolean[][] come = new boolean[lefts][lefts];
        for (int l = 0; l < lefts; l++) {
            for (int k = 0; k < lefts; k++) {
                come[l][k] = l == k || best[k] >= 0 && edges[l][best[k]];
            }
        }
        Brute.closed(come);
        int seen = 0;
        for (int l = 0; l < lefts; l++) {
            int block = bench.block(0, l);
            if (bench.part(0, l) != 1) {
                CHECK.due(name + "block outside part 1", block, PairBench.NO);
                continue;
            }
            CHECK.due(name + "block of the partner", bench.block(1, best[l]), block);
            CHECK.due(name + "blocks in order", block <= seen, true);
            seen = Math.max(seen, block + 1);
            for (int k = 0; k < lefts; k++) {
                if (bench.part(0, k) == 1) {
                    boolean same = come[l][k] && come[k][l];
                    CHECK.due(name + "same block", block == bench.block(0, k), same);
                    CHECK.due(name + "leads", bench.leads(block, bench.block(0, k)), come[l][k] && !same ? 1 : 0);
                }
            }
        }
        CHECK.due(name + "blocks", bench.count(8), seen);
    }

    private static void pairings(int lefts, int rights, int tries, Random dice) {
        boolean[][] edges = chance(lefts, rights, tries, dice);
        PairBench bench = bench(edges, lefts, rights);
        Map<Integer, Long> ways = new HashMap<>();
        ways.put(0, 1L);
        for (int l = 0; l < lefts; l++) {
            Map<Integer, Long> next = new HashMap<>(ways);
            for (Map.Entry<Integer, Long> entry : ways.entrySet()) {
                for (int r = 0; r < rights; r++) {
                    if (edges[l][r] && (entry.getKey() >> r & 1) == 0) {
                        next.merge(entry.getKey() | 1 << r, entry.getValue(), Long::sum);
                    }
                }
            }
            ways = next;
        }
        int most = 0;
        for (int set : ways.keySet()) {
            most = Math.max(most, Integer.bitCount(set));
        }
        long sum = 0;
        for (Map.Entry<Integer, Long> entry : ways.entrySet()) {
            sum += Integer.bitCount(entry.getKey()) == most ? entry.getValue() : 0;
        }
        CHECK.due(Arrays.deepToString(edges) + " pairings()", bench.pairings(), sum);
    }

    private static void order(int count, int tells, Random dice) {
        PairBench bench = Build.things(count);
        boolean[][] below = new boolean[count][count];
        for (int i = 0; i < tells; i++) {
            int a = dice.nextInt(count);
            int b = dice.nextInt(count);
            if (bench.tell(a, b) == 1) {
                below[a][b] = true;
            }
        }
        Brute.closed(below);
        Slow slow = new Slow(below, count, count);
        int width = count - slow.size();
        String name = count + " things, " + tells + ": ";
        CHECK.due(name + "width", bench.count(10), width);
        int[] best = slow.best();
        int chains = 0;
        int[] members = new int[2];
        for (int a = 0; a < count; a++) {
            CHECK.due(name + "next", bench.about(a, 1), best[a]);
            chains = Math.max(chains, bench.about(a, 0) + 1);
            int next = best[a];
            CHECK.due(name + "chain of next", bench.about(next >= 0 ? next : a, 0), bench.about(a, 0));
            members[0] += bench.about(a, 3);
            members[1] += bench.about(a, 4);
            for (int b = 0; b < count; b++) {
                CHECK.due(name + "below", bench.below(a, b), below[a][b]);
                boolean low = bench.about(a, 3) == 1 && bench.about(b, 3) == 1;
                boolean high = bench.about(a, 4) == 1 && bench.about(b, 4) == 1;
                CHECK.due(name + "two of an antichain", (low || high) && below[a][b], false);
                CHECK.due(name + "levels rise", !below[a][b] || bench.about(a, 2) < bench.about(b, 2), true);
            }
        }
        CHECK.due(name + "chains", chains, width);
        CHECK.due(name + "antichain 0", members[0], width);
        CHECK.due(name + "antichain 1", members[1], width);
    }
}
