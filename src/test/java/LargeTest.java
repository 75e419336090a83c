import java.util.Arrays;
import java.util.HashMap;
import java.util.Map;
import java.util.Random;

/** Graphs up to 50 and 50 and orders up to 40 things, held against slow answers found in other ways. */
public final class LargeTest {
    private static final Check CHECK = new Check();

    public static void main(String[] args) {
        Random dice = new Random(99);
        for (int round = 0; round < 150; round++) {
            graph(20 + dice.nextInt(31), 20 + dice.nextInt(31), 20 + dice.nextInt(180), dice);
        }
        for (int round = 0; round < 20; round++) {
            graph(50, 50, 60 + 10 * round, dice);
        }
        graph(50, 50, 370, dice);
        // As many edges as there can be among the 512 calls, every node joined to every other.
        graph(20, 20, 20000, dice);
        graph(50, 7, 20000, dice);
        graph(7, 50, 20000, dice);
        for (int round = 0; round < 200; round++) {
            pairings(1 + dice.nextInt(16), 1 + dice.nextInt(16), dice.nextInt(45), dice);
        }
        for (int round = 0; round < 60; round++) {
            order(20 + dice.nextInt(21), dice.nextInt(120), dice);
        }
        longestPath();
        CHECK.end("LargeTest");
    }

    /** The last left node gets its one partner only when all others go on to their second ones. */
    private static void longestPath() {
        PairBench bench = Build.nodes(50, 50);
        for (int l = 0; l < 49; l++) {
            bench.edge(l, l, true);
            bench.edge(l, l + 1, true);
        }
        CHECK.due("SIZE before the last edge", bench.count(3), 49);
        CHECK.due("partner of 48 before", bench.partner(0, 48), 48);
        bench.edge(49, 0, true);
        CHECK.due("SIZE after it", bench.count(3), 50);
        for (int l = 0; l < 50; l++) {
            CHECK.due("partner(0, " + l + ")", bench.partner(0, l), l == 49 ? 0 : l + 1);
            CHECK.due("edgeIs(" + l + ")", bench.edgeIs(l, l == 49 ? 0 : l + 1), 2);
        }
        CHECK.due("all are lone pairs", bench.count(8), 50);
        CHECK.due("48 leads over all others to 49", bench.leads(48, 49), 1);
        CHECK.due("49 leads to none", bench.leads(49, 48), 0);
    }

    private static boolean[][] chance(int lefts, int rights, int tries, Random dice) {
        boolean[][] edges = new boolean[lefts][rights];
        for (int i = 0; i < tries; i++) {
            edges[dice.nextInt(lefts)][dice.nextInt(rights)] = true;
        }
        return edges;
    }

    private static Relay bench(boolean[][] edges, int lefts, int rights) {
        Relay bench = new Relay();
        bench.addNodes(lefts, rights);
        for (int l = 0; l < lefts; l++) {
            for (int r = 0; r < rights; r++) {
                if (edges[l][r]) {
                    bench.edge(l, r, true);
                }
            }
        }
        return bench;
    }

    private static void graph(int lefts, int rights, int tries, Random dice) {
        boolean[][] edges = chance(lefts, rights, tries, dice);
        Relay bench = bench(edges, lefts, rights);
        Slow slow = new Slow(edges, lefts, rights);
        String name = lefts + " and " + rights + ", " + tries + ": ";
        int size = slow.size();
        CHECK.due(name + "SIZE", bench.ask().count(3), size);
        CHECK.due(name + "LACK", bench.ask().count(4), lefts - size);
        int[] best = slow.best();
        for (int l = 0; l < lefts; l++) {
            CHECK.due(name + "partner(0, " + l + ")", bench.ask().partner(0, l), best[l]);
            CHECK.due(name + "nodeIs(0, " + l + ")", bench.ask().nodeIs(0, l), slow.sizeWithout(0, l) < size ? 1 : 0);
        }
        for (int r = 0; r < rights; r++) {
            CHECK.due(name + "partner(1, " + r + ")", bench.ask().partner(1, r), Brute.leftOf(best, r));
            CHECK.due(name + "nodeIs(1, " + r + ")", bench.ask().nodeIs(1, r), slow.sizeWithout(1, r) < size ? 1 : 0);
        }
        for (int i = 0; i < 60; i++) {
            int l = dice.nextInt(lefts);
            int r = dice.nextInt(rights);
            int want = edges[l][r] ? slow.edgeIs(l, r, size) : PairBench.BAD;
            CHECK.due(name + "edgeIs(" + l + ", " + r + ")", bench.ask().edgeIs(l, r), want);
        }
        for (int which = 0; which <= 1; which++) {
            cover(name, bench, which, edges, size);
            hall(name, bench, which, edges, size);
        }
        for (int node = 0; node < Math.max(lefts, rights); node++) {
            if (node < lefts) {
                sets(name, bench, slow, size, 0, node);
            }
            if (node < rights) {
                sets(name, bench, slow, size, 1, node);
            }
        }
        blocks(name, bench, edges, best);
    }

    /** Which part, covers and halls a node is in. */
    private static void sets(String name, Relay bench, Slow slow, int size, int side, int node) {
        String of = side + ", " + node + ")";
        CHECK.due(name + "part(" + of, bench.ask().part(side, node), slow.part(side, node, size));
        for (int which = 0; which <= 1; which++) {
            int covered = slow.isInCover(which, side, node, size) ? 1 : 0;
            CHECK.due(name + "cover(" + which + ", " + of, bench.ask().cover(which, side, node), covered);
            if (side == 0) {
                int lacking = slow.isInHall(which, node, size) ? 1 : 0;
                CHECK.due(name + "hall(" + which + ", " + node + ")", bench.ask().hall(which, node), lacking);
            }
        }
    }

    private static int sum(int[] row) {
        return Arrays.stream(row).sum();
    }

    /** A cover has as many nodes as the pairing has pairs, and a node of each edge. */
    private static void cover(String name, Relay bench, int which, boolean[][] edges, int size) {
        int[] left = new int[edges.length];
        int[] right = new int[edges[0].length];
        Arrays.setAll(left, l -> bench.ask().cover(which, 0, l));
        Arrays.setAll(right, r -> bench.ask().cover(which, 1, r));
        int bare = 0;
        for (int l = 0; l < left.length; l++) {
            for (int r = 0; r < right.length; r++) {
                bare += edges[l][r] && left[l] + right[r] == 0 ? 1 : 0;
            }
        }
        CHECK.due(name + "nodes of cover " + which, sum(left) + sum(right), size);
        CHECK.due(name + "edges without cover " + which, bare, 0);
    }

    /** A hall lacks as many partners as left nodes go without one. */
    private static void hall(String name, Relay bench, int which, boolean[][] edges, int size) {
        int[] members = new int[edges.length];
        int[] met = new int[edges[0].length];
        Arrays.setAll(members, l -> bench.ask().hall(which, l));
        for (int l = 0; l < members.length; l++) {
            for (int r = 0; r < met.length; r++) {
                met[r] |= edges[l][r] ? members[l] : 0;
            }
        }
        CHECK.due(name + "lack of hall " + which, sum(members) - sum(met), members.length - size);
    }

    private static void blocks(String name, Relay bench, boolean[][] edges, int[] best) {
        int lefts = edges.length;
        boolean[][] come = new boolean[lefts][lefts];
        for (int l = 0; l < lefts; l++) {
            for (int k = 0; k < lefts; k++) {
                come[l][k] = l == k || best[k] >= 0 && edges[l][best[k]];
            }
        }
        Brute.closed(come);
        int[] blocks = new int[lefts];
        int seen = 0;
        for (int l = 0; l < lefts; l++) {
            boolean inner = bench.ask().part(0, l) == 1;
            blocks[l] = bench.ask().block(0, l);
            CHECK.due(name + "block in part 1 alone", blocks[l] != PairBench.NO, inner);
            if (inner) {
                CHECK.due(name + "block of the partner", bench.ask().block(1, best[l]), blocks[l]);
                CHECK.due(name + "blocks in order", blocks[l] <= seen, true);
                seen = Math.max(seen, blocks[l] + 1);
            }
        }
        CHECK.due(name + "blocks", bench.ask().count(8), seen);
        leads(name, bench, blocks, come);
    }

    private static void leads(String name, Relay bench, int[] blocks, boolean[][] come) {
        for (int l = 0; l < blocks.length; l++) {
            for (int k = 0; k < blocks.length; k++) {
                if (blocks[l] >= 0 && blocks[k] >= 0) {
                    boolean same = come[l][k] && come[k][l];
                    CHECK.due(name + "same block", blocks[l] == blocks[k], same);
                    int want = come[l][k] && !same ? 1 : 0;
                    CHECK.due(name + "leads", bench.ask().leads(blocks[l], blocks[k]), want);
                }
            }
        }
    }

    private static void pairings(int lefts, int rights, int tries, Random dice) {
        boolean[][] edges = chance(lefts, rights, tries, dice);
        Relay bench = bench(edges, lefts, rights);
        Map<Integer, Long> ways = new HashMap<>();
        ways.put(0, 1L);
        for (int l = 0; l < lefts; l++) {
            Map<Integer, Long> next = new HashMap<>(ways);
            for (Map.Entry<Integer, Long> entry : ways.entrySet()) {
                for (int r = 0; r < rights; r++) {
                    if (edges[l][r] && (entry.getKey() >> r & 1) == 0) {
                        next.merge(entry.getKey() | 1 << r, entry.getValue(), Long::sum);
                    }
                }
            }
            ways = next;
        }
        int most = 0;
        for (int set : ways.keySet()) {
            most = Math.max(most, Integer.bitCount(set));
        }
        long sum = 0;
        for (Map.Entry<Integer, Long> entry : ways.entrySet()) {
            sum += Integer.bitCount(entry.getKey()) == most ? entry.getValue() : 0;
        }
        CHECK.due(Arrays.deepToString(edges) + " pairings()", bench.ask().pairings(), sum);
    }

    private static void order(int count, int tells, Random dice) {
        Relay bench = new Relay();
        for (int i = 0; i < count; i++) {
            bench.change(PairBench::thing);
        }
        boolean[][] below = new boolean[count][count];
        for (int i = 0; i < tells; i++) {
            int a = dice.nextInt(count);
            int b = dice.nextInt(count);
            below[a][b] |= bench.tell(a, b) == 1;
        }
        Brute.closed(below);
        Slow slow = new Slow(below, count, count);
        int width = count - slow.size();
        String name = count + " things, " + tells + ": ";
        CHECK.due(name + "width", bench.ask().count(10), width);
        int[][] about = new int[5][count];
        for (int what = 0; what < 5; what++) {
            int asked = what;
            Arrays.setAll(about[what], thing -> bench.ask().about(thing, asked));
        }
        int[] best = slow.best();
        CHECK.row(name + "next", about[1], best);
        for (int a = 0; a < count; a++) {
            CHECK.due(name + "chain of next", about[0][best[a] >= 0 ? best[a] : a], about[0][a]);
        }
        CHECK.due(name + "chains", Arrays.stream(about[0]).max().getAsInt() + 1, width);
        CHECK.due(name + "antichain 0", sum(about[3]), width);
        CHECK.due(name + "antichain 1", sum(about[4]), width);
        twoByTwo(name, bench, below, about);
        int most = 0;
        for (int a = 0; a < count; a++) {
            int level = Brute.level(below, a, new int[count]);
            most = Math.max(most, level + 1);
            CHECK.due(name + "level of " + a, about[2][a], level);
            CHECK.due(name + "chain of " + a, about[0][a], Brute.chain(best, a));
            CHECK.due(name + a + " is in antichain 0", about[3][a], isLast(below, slow, width, a, 0) ? 1 : 0);
            CHECK.due(name + a + " is in antichain 1", about[4][a], isLast(below, slow, width, a, 1) ? 1 : 0);
        }
        CHECK.due(name + "levels", bench.ask().count(11), most);
    }

    /** Whether a thing is in some greatest antichain, and none that is below it (0) or above it (1) is. */
    private static boolean isLast(boolean[][] below, Slow slow, int width, int thing, int which) {
        boolean last = slow.isInSomeAntichain(thing, width);
        for (int other = 0; other < below.length && last; other++) {
            boolean beyond = which == 0 ? below[other][thing] : below[thing][other];
            last = !beyond || !slow.isInSomeAntichain(other, width);
        }
        return last;
    }

    private static void twoByTwo(String name, Relay bench, boolean[][] below, int[][] about) {
        for (int a = 0; a < below.length; a++) {
            for (int b = 0; b < below.length; b++) {
                CHECK.due(name + "below", bench.ask().below(a, b), below[a][b]);
                boolean low = about[3][a] + about[3][b] == 2;
                boolean high = about[4][a] + about[4][b] == 2;
                CHECK.due(name + "two of an antichain", (low || high) && below[a][b], false);
                CHECK.due(name + "levels rise", !below[a][b] || about[2][a] < about[2][b], true);
            }
        }
    }
}
