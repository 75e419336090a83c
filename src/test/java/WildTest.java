import java.util.Random;

/** No call throws, whatever its arguments and however the object was used before. */
public final class WildTest {
    private static final Check CHECK = new Check();
    private static final int[] ODD =
        {-1, -2, -3, -64, Integer.MIN_VALUE, Integer.MAX_VALUE, 16, 17, 40, 49, 50, 63, 64};

    public static void main(String[] args) {
        Random dice = new Random(7);
        for (int round = 0; round < 400; round++) {
            run("round " + round, 512, dice);
        }
        // What later calls answer is free, but no call may ever throw.
        for (int round = 0; round < 20; round++) {
            run("long round " + round, 2000, dice);
        }
        CHECK.end("WildTest");
    }

    private static void run(String name, int calls, Random dice) {
        PairBench bench = new PairBench();
        int span = 1 + dice.nextInt(60);
        String last = "";
        try {
            for (int i = 0; i < calls; i++) {
                last = call(bench, dice, span);
            }
            CHECK.due(name, true, true);
        } catch (RuntimeException thrown) {
            CHECK.due(name + " after " + last + ": " + thrown, false, true);
        }
    }

    private static int number(Random dice, int span) {
        return dice.nextInt(12) == 0 ? ODD[dice.nextInt(ODD.length)] : dice.nextInt(span);
    }

    private static int few(Random dice, int end) {
        return dice.nextInt(12) == 0 ? ODD[dice.nextInt(ODD.length)] : dice.nextInt(end);
    }

    private static String call(PairBench bench, Random dice, int span) {
        int which = dice.nextInt(40);
        int a = number(dice, span);
        int b = number(dice, span);
        int side = few(dice, 2);
        switch (which) {
            case 0: bench.count(few(dice, 12)); break;
            case 1: bench.has(a, b); break;
            case 2: bench.partner(side, a); break;
            case 3: bench.edgeIs(a, b); break;
            case 4: bench.nodeIs(side, a); break;
            case 5: bench.cover(few(dice, 2), side, a); break;
            case 6: bench.hall(few(dice, 2), a); break;
            case 7: bench.part(side, a); break;
            case 8: bench.block(side, a); break;
            case 9: bench.leads(a, b); break;
            case 10: bench.pairings(); break;
            case 11: bench.below(a, b); break;
            case 12: bench.about(a, few(dice, 5)); break;
            case 13: if (dice.nextInt(20) == 0) { bench.clearGraph(); } break;
            case 14: if (dice.nextInt(20) == 0) { bench.clearThings(); } break;
            case 15: case 16: case 17: bench.tell(a, b); break;
            case 18: case 19: case 20: bench.thing(); break;
            case 21: bench.edge(a, b, false); break;
            case 22: case 23: case 24: case 25: case 26: case 27: bench.node(side); break;
            default: bench.edge(a, b, true); break;
        }
        return "call " + which + " of " + a + ", " + b + ", " + side;
    }
}
