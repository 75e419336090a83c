/** Answers about graphs of any size, found anew for each question by pairing a changed graph. */
final class Slow {
    private final boolean[][] edges;
    private final int lefts;
    private final int rights;

    Slow(boolean[][] edges, int lefts, int rights) {
        this.edges = edges;
        this.lefts = lefts;
        this.rights = rights;
    }

    /** The size of a greatest pairing without some nodes. */
    int size(boolean[] goneLeft, boolean[] goneRight) {
        int[] owner = new int[rights];
        java.util.Arrays.fill(owner, -1);
        int pairs = 0;
        for (int left = 0; left < lefts; left++) {
            if (!goneLeft[left] && place(left, owner, goneRight.clone())) {
                pairs++;
            }
        }
        return pairs;
    }

    int size() {
        return size(new boolean[lefts], new boolean[rights]);
    }

    private boolean place(int left, int[] owner, boolean[] shut) {
        for (int right = 0; right < rights; right++) {
            if (edges[left][right] && !shut[right]) {
                shut[right] = true;
                if (owner[right] < 0 || place(owner[right], owner, shut)) {
                    owner[right] = left;
                    return true;
                }
            }
        }
        return false;
    }

    int[] best() {
        boolean[] goneLeft = new boolean[lefts];
        boolean[] goneRight = new boolean[rights];
        int[] best = new int[lefts];
        int open = size();
        for (int left = 0; left < lefts; left++) {
            goneLeft[left] = true;
            best[left] = PairBench.NO;
            for (int right = 0; right < rights && best[left] == PairBench.NO; right++) {
                if (edges[left][right] && !goneRight[right]) {
                    goneRight[right] = true;
                    if (size(goneLeft, goneRight) == open - 1) {
                        best[left] = right;
                        open--;
                    } else {
                        goneRight[right] = false;
                    }
                }
            }
        }
        return best;
    }

    int sizeWithout(int side, int node) {
        boolean[][] gone = {new boolean[lefts], new boolean[rights]};
        gone[side][node] = true;
        return size(gone[0], gone[1]);
    }

    int edgeIs(int left, int right, int size) {
        edges[left][right] = false;
        boolean inAll = size() < size;
        edges[left][right] = true;
        boolean[] goneLeft = new boolean[lefts];
        boolean[] goneRight = new boolean[rights];
        goneLeft[left] = true;
        goneRight[right] = true;
        boolean inSome = size(goneLeft, goneRight) == size - 1;
        return inAll ? 2 : inSome ? 1 : 0;
    }
}
