import java.util.ArrayList;
import java.util.List;
import java.util.function.ToIntFunction;

/**
 * A bench for any number of questions. Nothing is promised of an object after its 512th call: then another object, on
 * which the same changes have been made, goes on in its place.
 */
final class Relay {
    private static final int MOST_CALLS = 512;
    private final List<ToIntFunction<PairBench>> changes = new ArrayList<>();
    private PairBench bench = new PairBench();
    private int calls = 0;

    /** The object for one call that changes nothing. */
    PairBench ask() {
        if (calls == MOST_CALLS) {
            bench = new PairBench();
            for (ToIntFunction<PairBench> change : changes) {
                change.applyAsInt(bench);
            }
            calls = changes.size();
        }
        calls++;
        if (calls > MOST_CALLS) {
            throw new IllegalStateException("a test makes more than 512 changes");
        }
        return bench;
    }

    int change(ToIntFunction<PairBench> change) {
        int answer = change.applyAsInt(ask());
        changes.add(change);
        return answer;
    }

    void addNodes(int lefts, int rights) {
        for (int i = 0; i < lefts; i++) {
            change(bench -> bench.node(0));
        }
        for (int i = 0; i < rights; i++) {
            change(bench -> bench.node(1));
        }
    }

    int edge(int left, int right, boolean there) {
        return change(bench -> bench.edge(left, right, there));
    }

    int tell(int a, int b) {
        return change(bench -> bench.tell(a, b));
    }
}
