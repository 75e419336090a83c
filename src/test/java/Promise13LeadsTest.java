/** Promise 13, leads(b, c): "BAD: no such blocks. (Not if both are one.)" */
public final class Promise13LeadsTest {
    private static final int BAD = PairBench.BAD;

    public static void main(String[] args) {
        Sentences.run(Promise13LeadsTest.class);
    }

    static void promise13BadNoSuchFirstBlock(Check check) {
        PairBench bench = Build.lonePairs(3);
        for (int block : Wrong.beside(3)) {
            check.due("leads(" + block + ", 0)", bench.leads(block, 0), BAD);
            check.due("leads(" + block + ", 2)", bench.leads(block, 2), BAD);
        }
    }

    static void promise13BadNoSuchSecondBlock(Check check) {
        PairBench bench = Build.lonePairs(3);
        for (int block : Wrong.beside(3)) {
            check.due("leads(0, " + block + ")", bench.leads(0, block), BAD);
            check.due("leads(2, " + block + ")", bench.leads(2, block), BAD);
        }
    }

    static void promise13BadNoSuchBlockTwice(Check check) {
        PairBench bench = Build.lonePairs(3);
        for (int block : Wrong.beside(3)) {
            check.due("leads(" + block + ", " + block + ")", bench.leads(block, block), BAD);
        }
    }

    static void promise13BadWithoutBlocks(Check check) {
        check.due("no nodes", new PairBench().leads(0, 0), BAD);
        check.due("no edges", Build.nodes(2, 2).leads(0, 1), BAD);
        check.due("all in part 0", Build.complete(3, 2).leads(0, 0), BAD);
        check.due("all in part 2", Build.complete(2, 3).leads(0, 0), BAD);
    }

    static void promise13BadIsCountedInBlocksNotNodes(Check check) {
        PairBench bench = Build.complete(3, 3);
        check.due("the only block", bench.leads(0, 0), 0);
        check.due("left 1 is no block 1", bench.leads(0, 1), BAD);
        check.due("left 2 is no block 2", bench.leads(2, 0), BAD);
    }

    static void promise13NotIfBothAreOne(Check check) {
        check.due("a lone pair", Build.lonePairs(1).leads(0, 0), 0);
        PairBench ring = Build.graph(3, 3, 0, 0, 0, 1, 1, 1, 1, 2, 2, 2, 2, 0);
        check.due("a ring comes to itself, yet", ring.leads(0, 0), 0);
        PairBench parts = Build.threeParts();
        check.due("leads(0, 0)", parts.leads(0, 0), 0);
        check.due("leads(1, 1)", parts.leads(1, 1), 0);
        PairBench full = Build.lonePairs(50);
        for (int block = 0; block < 50; block++) {
            check.due("leads(" + block + ", " + block + ")", full.leads(block, block), 0);
        }
    }

    static void promise13OneWayAlone(Check check) {
        PairBench bench = Build.graph(2, 2, 0, 0, 0, 1, 1, 1);
        check.due("leads(0, 1)", bench.leads(0, 1), 1);
        check.due("leads(1, 0)", bench.leads(1, 0), 0);
        bench.edge(0, 1, false);
        check.due("leads(0, 1) without the edge", bench.leads(0, 1), 0);
    }

    static void promise13OverAnyOthers(Check check) {
        PairBench bench = Build.lonePairs(50);
        for (int i = 0; i < 49; i++) {
            bench.edge(i, i + 1, true);
        }
        check.due("leads(0, 49)", bench.leads(0, 49), 1);
        check.due("leads(49, 0)", bench.leads(49, 0), 0);
        check.due("leads(48, 49)", bench.leads(48, 49), 1);
        check.due("leads(0, 50)", bench.leads(0, 50), BAD);
        check.due("leads(50, 0)", bench.leads(50, 0), BAD);
        bench.edge(25, 26, false);
        check.due("leads(0, 49) when the way is cut", bench.leads(0, 49), 0);
        check.due("leads(0, 25)", bench.leads(0, 25), 1);
    }
}
