import java.util.Random;

/** Every answer about small graphs, held against all greatest pairings, covers and sets written out. */
public final class SmallGraphTest {
    private static final Check CHECK = new Check();

    public static void main(String[] args) {
        allGraphs(3, 3);
        allGraphs(4, 3);
        allGraphs(3, 4);
        Random dice = new Random(20261115);
        for (int round = 0; round < 2500; round++) {
            int lefts = dice.nextInt(7);
            int rights = dice.nextInt(7);
            int thick = 1 + dice.nextInt(9);
            boolean[][] edges = new boolean[lefts][rights];
            for (int l = 0; l < lefts; l++) {
                for (int r = 0; r < rights; r++) {
                    edges[l][r] = dice.nextInt(10) < thick;
                }
            }
            compare(edges, lefts, rights, dice);
        }
        for (int round = 0; round < 200; round++) {
            walk(1 + round % 4, dice);
        }
        CHECK.end("SmallGraphTest");
    }

    /** Changes one after the other on one object, all answers asked for after each few. */
    private static void walk(int often, Random dice) {
        Relay bench = new Relay();
        boolean[][] edges = new boolean[5][5];
        int[] sizes = new int[2];
        for (int step = 0; step < 40; step++) {
            int side = dice.nextInt(2);
            if (dice.nextInt(30) == 0) {
                CHECK.due("walk clearGraph", bench.change(PairBench::clearGraph), sizes[0] + sizes[1]);
                edges = new boolean[5][5];
                sizes = new int[2];
            } else if (sizes[side] < 5 && dice.nextInt(4) == 0) {
                CHECK.due("walk node", bench.change(x -> x.node(side)), sizes[side]);
                sizes[side]++;
            } else if (sizes[0] > 0 && sizes[1] > 0) {
                int l = dice.nextInt(sizes[0]);
                int r = dice.nextInt(sizes[1]);
                edges[l][r] = dice.nextInt(3) > 0;
                bench.edge(l, r, edges[l][r]);
            }
            if (step % often == 0) {
                compareAll(bench, edges, sizes[0], sizes[1]);
            }
        }
    }

    private static void allGraphs(int lefts, int rights) {
        for (int code = 0; code < 1 << lefts * rights; code++) {
            boolean[][] edges = new boolean[lefts][rights];
            for (int i = 0; i < lefts * rights; i++) {
                edges[i / rights][i % rights] = (code >> i & 1) != 0;
            }
            compare(edges, lefts, rights, new Random(code));
        }
    }

    private static void compare(boolean[][] edges, int lefts, int rights, Random dice) {
        Relay bench = new Relay();
        detour(bench, dice);
        bench.addNodes(lefts, rights);
        draw(bench, edges, lefts, rights, dice);
        compareAll(bench, edges, lefts, rights);
    }

    private static void compareAll(Relay bench, boolean[][] edges, int lefts, int rights) {
        Brute brute = new Brute(edges, lefts, rights);
        String name = "graph " + java.util.Arrays.deepToString(edges) + " ";
        counts(bench, brute, name);
        for (int side = 0; side <= 1; side++) {
            nodes(bench, brute, name, side);
        }
        covers(bench, brute, name);
        edges(bench, brute, name);
        leads(bench, brute, name);
    }

    /** Another graph that is asked about and cleared: nothing of it may stay. */
    private static void detour(Relay bench, Random dice) {
        if (dice.nextBoolean()) {
            bench.addNodes(5, 6);
            for (int i = 0; i < 9; i++) {
                bench.edge(dice.nextInt(5), dice.nextInt(6), true);
            }
            bench.ask().pairings();
            CHECK.due("clearGraph", bench.change(PairBench::clearGraph), 11);
        }
    }

    /** Draws some edges that are taken away again, with questions between. */
    private static void draw(Relay bench, boolean[][] edges, int lefts, int rights, Random dice) {
        for (int l = 0; l < lefts; l++) {
            for (int r = 0; r < rights; r++) {
                if (edges[l][r] || dice.nextInt(4) == 0) {
                    CHECK.due("edge new", bench.edge(l, r, true), 1);
                }
            }
        }
        bench.ask().pairings();
        for (int l = 0; l < lefts; l++) {
            for (int r = 0; r < rights; r++) {
                boolean extra = bench.ask().has(l, r) && !edges[l][r];
                CHECK.due("edge set", bench.edge(l, r, edges[l][r]), extra ? 1 : 0);
            }
        }
    }

    private static void counts(Relay bench, Brute brute, String name) {
        int[] parts = new int[3];
        for (int l = 0; l < brute.lefts; l++) {
            parts[brute.part(0, l)]++;
        }
        for (int r = 0; r < brute.rights; r++) {
            parts[brute.part(1, r)]++;
        }
        int blocks = 0;
        for (int number : brute.blocks()) {
            blocks = Math.max(blocks, number + 1);
        }
        int[] want = {brute.lefts, brute.rights, brute.edgeCount(), brute.size(), brute.greatestLack(), parts[0],
            parts[1], parts[2], blocks, 0, 0, 0};
        for (int what = 0; what < want.length; what++) {
            CHECK.due(name + "count(" + what + ")", bench.ask().count(what), want[what]);
        }
        CHECK.due(name + "pairings()", bench.ask().pairings(), brute.greatest.size());
    }

    private static void nodes(Relay bench, Brute brute, String name, int side) {
        int[] best = brute.best();
        int[] blocks = brute.blocks();
        int end = side == 0 ? brute.lefts : brute.rights;
        for (int node = 0; node < end; node++) {
            String of = "(" + side + ", " + node + ")";
            CHECK.due(name + "partner" + of, bench.ask().partner(side, node), brute.partner(best, side, node));
            CHECK.due(name + "nodeIs" + of, bench.ask().nodeIs(side, node), brute.nodeIs(side, node));
            int part = brute.part(side, node);
            CHECK.due(name + "part" + of, bench.ask().part(side, node), part);
            int left = side == 0 ? node : Brute.leftOf(best, node);
            int block = part == 1 ? blocks[left] : PairBench.NO;
            CHECK.due(name + "block" + of, bench.ask().block(side, node), block);
        }
    }

    private static void covers(Relay bench, Brute brute, String name) {
        for (int which = 0; which <= 1; which++) {
            int[] cover = brute.cover(which);
            int hall = brute.hall(which);
            for (int l = 0; l < brute.lefts; l++) {
                String call = name + "cover(" + which + ", 0, " + l + ")";
                CHECK.due(call, bench.ask().cover(which, 0, l), cover[0] >> l & 1);
                CHECK.due(name + "hall(" + which + ", " + l + ")", bench.ask().hall(which, l), hall >> l & 1);
            }
            for (int r = 0; r < brute.rights; r++) {
                String call = name + "cover(" + which + ", 1, " + r + ")";
                CHECK.due(call, bench.ask().cover(which, 1, r), cover[1] >> r & 1);
            }
        }
    }

    private static void edges(Relay bench, Brute brute, String name) {
        for (int l = 0; l < brute.lefts; l++) {
            for (int r = 0; r < brute.rights; r++) {
                String of = "(" + l + ", " + r + ")";
                CHECK.due(name + "has" + of, bench.ask().has(l, r), brute.edges[l][r]);
                CHECK.due(name + "edgeIs" + of, bench.ask().edgeIs(l, r), brute.edgeIs(l, r));
            }
        }
    }

    private static void leads(Relay bench, Brute brute, String name) {
        int[] blocks = brute.blocks();
        boolean[][] come = brute.steps();
        for (int l = 0; l < brute.lefts; l++) {
            for (int k = 0; k < brute.lefts; k++) {
                if (blocks[l] >= 0 && blocks[k] >= 0) {
                    boolean want = blocks[l] != blocks[k] && come[l][k];
                    String call = name + "leads(" + blocks[l] + ", " + blocks[k] + ")";
                    CHECK.due(call, bench.ask().leads(blocks[l], blocks[k]), want ? 1 : 0);
                }
            }
        }
    }
}
