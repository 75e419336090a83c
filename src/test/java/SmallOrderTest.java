import java.util.Arrays;
import java.util.Random;

/** Every answer about few things, held against all sets of things and all greatest pairings written out. */
public final class SmallOrderTest {
    private static final Check CHECK = new Check();

    public static void main(String[] args) {
        Random dice = new Random(4711);
        for (int round = 0; round < 3000; round++) {
            Relay bench = new Relay();
            if (dice.nextInt(3) == 0) {
                int before = dice.nextInt(6);
                grow(bench, before, dice.nextInt(8), dice);
                bench.ask().count(10);
                CHECK.due("clearThings", bench.change(PairBench::clearThings), before);
            }
            int count = dice.nextInt(8);
            compare(bench, grow(bench, count, dice.nextInt(16), dice));
        }
        for (int round = 0; round < 200; round++) {
            walk(1 + round % 4, dice);
        }
        CHECK.end("SmallOrderTest");
    }

    /** Changes one after the other on one object, all answers asked for after each few. */
    private static void walk(int often, Random dice) {
        Relay bench = new Relay();
        boolean[][] below = new boolean[0][0];
        for (int step = 0; step < 30; step++) {
            int count = below.length;
            if (dice.nextInt(30) == 0) {
                CHECK.due("walk clearThings", bench.change(PairBench::clearThings), count);
                below = new boolean[0][0];
            } else if (count < 6 && dice.nextInt(3) == 0) {
                CHECK.due("walk thing", bench.change(PairBench::thing), count);
                boolean[][] more = new boolean[count + 1][count + 1];
                for (int a = 0; a < count; a++) {
                    System.arraycopy(below[a], 0, more[a], 0, count);
                }
                below = more;
            } else if (count > 0) {
                tell(bench, below, dice.nextInt(count), dice.nextInt(count));
            }
            if (step % often == 0) {
                compare(bench, below);
            }
        }
    }

    private static void tell(Relay bench, boolean[][] below, int a, int b) {
        int want = a == b || below[b][a] ? PairBench.NO : below[a][b] ? 0 : 1;
        CHECK.due(Arrays.deepToString(below) + " tell(" + a + ", " + b + ")", bench.tell(a, b), want);
        if (want == 1) {
            below[a][b] = true;
            Brute.closed(below);
        }
    }

    /** Makes things and tells of them by chance; what is below what is followed up here in its own way. */
    private static boolean[][] grow(Relay bench, int count, int tells, Random dice) {
        boolean[][] below = new boolean[count][count];
        for (int i = 0; i < count; i++) {
            CHECK.due("thing", bench.change(PairBench::thing), i);
        }
        for (int i = 0; i < tells && count > 0; i++) {
            int a = dice.nextInt(count);
            tell(bench, below, a, dice.nextInt(count));
            if (dice.nextInt(4) == 0) {
                bench.ask().about(a, dice.nextInt(5));
            }
        }
        return below;
    }

    private static void compare(Relay bench, boolean[][] below) {
        int count = below.length;
        String name = "order " + Arrays.deepToString(below) + " ";
        int[] next = new Brute(below, count, count).best();
        int width = width(below);
        CHECK.due(name + "count(9)", bench.ask().count(9), count);
        CHECK.due(name + "count(10)", bench.ask().count(10), width);
        int levels = 0;
        for (int a = 0; a < count; a++) {
            int level = Brute.level(below, a, new int[count]);
            levels = Math.max(levels, level + 1);
            CHECK.due(name + "about(" + a + ", 0)", bench.ask().about(a, 0), Brute.chain(next, a));
            CHECK.due(name + "about(" + a + ", 1)", bench.ask().about(a, 1), next[a]);
            CHECK.due(name + "about(" + a + ", 2)", bench.ask().about(a, 2), level);
            CHECK.due(name + "about(" + a + ", 3)", bench.ask().about(a, 3), antichain(below, width, 0) >> a & 1);
            CHECK.due(name + "about(" + a + ", 4)", bench.ask().about(a, 4), antichain(below, width, 1) >> a & 1);
            for (int b = 0; b < count; b++) {
                CHECK.due(name + "below(" + a + ", " + b + ")", bench.ask().below(a, b), below[a][b]);
            }
        }
        CHECK.due(name + "count(11)", bench.ask().count(11), levels);
    }

    private static boolean isAntichain(boolean[][] below, int set) {
        for (int a = 0; a < below.length; a++) {
            for (int b = 0; b < below.length; b++) {
                if ((set >> a & 1) != 0 && (set >> b & 1) != 0 && below[a][b]) {
                    return false;
                }
            }
        }
        return true;
    }

    private static int width(boolean[][] below) {
        int most = 0;
        for (int set = 0; set < 1 << below.length; set++) {
            if (isAntichain(below, set)) {
                most = Math.max(most, Integer.bitCount(set));
            }
        }
        return most;
    }

    /** The greatest antichain of which each thing is in, or below (0) or above (1) one of, each other one. */
    private static int antichain(boolean[][] below, int width, int which) {
        for (int set = 0; set < 1 << below.length; set++) {
            if (Integer.bitCount(set) == width && isAntichain(below, set) && isOutermost(below, width, which, set)) {
                return set;
            }
        }
        throw new IllegalStateException("no such antichain");
    }

    private static boolean isOutermost(boolean[][] below, int width, int which, int set) {
        for (int other = 0; other < 1 << below.length; other++) {
            if (Integer.bitCount(other) == width && isAntichain(below, other) && !leansOn(below, which, set, other)) {
                return false;
            }
        }
        return true;
    }

    private static boolean leansOn(boolean[][] below, int which, int set, int other) {
        for (int a = 0; a < below.length; a++) {
            boolean held = (set >> a & 1) == 0 || (other >> a & 1) != 0;
            for (int b = 0; b < below.length; b++) {
                held |= (other >> b & 1) != 0 && (which == 0 ? below[a][b] : below[b][a]);
            }
            if (!held) {
                return false;
            }
        }
        return true;
    }
}
