/** Answers about graphs of any size, found anew for each question by pairing a changed graph. */
final class Slow {
    private final boolean[][] edges;
    private final int lefts;
    private final int rights;

    Slow(boolean[][] edges, int lefts, int rights) {
        this.edges = edges;
        this.lefts = lefts;
        this.rights = rights;
    }

    /** The size of a greatest pairing without some nodes. */
    int size(boolean[] goneLeft, boolean[] goneRight) {
        int[] owner = new int[rights];
        java.util.Arrays.fill(owner, -1);
        int pairs = 0;
        for (int left = 0; left < lefts; left++) {
            if (!goneLeft[left] && place(left, owner, goneRight.clone())) {
                pairs++;
            }
        }
        return pairs;
    }

    int size() {
        return size(new boolean[lefts], new boolean[rights]);
    }

    private boolean place(int left, int[] owner, boolean[] shut) {
        for (int right = 0; right < rights; right++) {
            if (edges[left][right] && !shut[right]) {
                shut[right] = true;
                if (owner[right] < 0 || place(owner[right], owner, shut)) {
                    owner[right] = left;
                    return true;
                }
            }
        }
        return false;
    }

    int[] best() {
        boolean[] goneLeft = new boolean[lefts];
        boolean[] goneRight = new boolean[rights];
        int[] best = new int[lefts];
        int open = size();
        for (int left = 0; left < lefts; left++) {
            goneLeft[left] = true;
            best[left] = PairBench.NO;
            for (int right = 0; right < rights && best[left] == PairBench.NO; right++) {
                if (edges[left][right] && !goneRight[right]) {
                    goneRight[right] = true;
                    if (size(goneLeft, goneRight) == open - 1) {
                        best[left] = right;
                        open--;
                    } else {
                        goneRight[right] = false;
                    }
                }
            }
        }
        return best;
    }

    int sizeWithout(int side, int node) {
        boolean[][] gone = {new boolean[lefts], new boolean[rights]};
        gone[side][node] = true;
        return size(gone[0], gone[1]);
    }

    int edgeIs(int left, int right, int size) {
        edges[left][right] = false;
        boolean inAll = size() < size;
        edges[left][right] = true;
        boolean[] goneLeft = new boolean[lefts];
        boolean[] goneRight = new boolean[rights];
        goneLeft[left] = true;
        goneRight[right] = true;
        boolean inSome = size(goneLeft, goneRight) == size - 1;
        return inAll ? 2 : inSome ? 1 : 0;
    }

    private boolean joins(int side, int node, int other) {
        return side == 0 ? edges[node][other] : edges[other][node];
    }

    /** A node and all that have an edge to it. */
    private boolean[][] around(int side, int node) {
        boolean[][] found = {new boolean[lefts], new boolean[rights]};
        found[side][node] = true;
        for (int other = 0; other < found[1 - side].length; other++) {
            found[1 - side][other] = joins(side, node, other);
        }
        return found;
    }

    private static int howMany(boolean[] set) {
        int sum = 0;
        for (boolean member : set) {
            sum += member ? 1 : 0;
        }
        return sum;
    }

    /** The part by the document's words, from what each node is without. */
    int part(int side, int node, int size) {
        if (sizeWithout(side, node) == size) {
            return side == 0 ? 0 : 2;
        }
        boolean[] others = around(side, node)[1 - side];
        for (int other = 0; other < others.length; other++) {
            if (others[other] && sizeWithout(1 - side, other) == size) {
                return side == 0 ? 2 : 0;
            }
        }
        return 1;
    }

    /** Cover 0 has the left nodes that are in some least cover and the right ones that are in all, cover 1 likewise. */
    boolean isInCover(int which, int side, int node, int size) {
        if (side == which) {
            return sizeWithout(side, node) < size;
        }
        // A cover without the node has all its neighbours, and a cover of the rest.
        boolean[][] gone = around(side, node);
        return howMany(gone[1 - side]) + size(gone[0], gone[1]) > size;
    }

    /** Hall 0 has the left nodes that are in all sets of the greatest lack, hall 1 those that are in some. */
    boolean isInHall(int which, int left, int size) {
        int lack = lefts - size;
        if (which == 0) {
            return lefts - 1 - sizeWithout(0, left) < lack;
        }
        // A set with the node has its partners too, and of the rest what lacks most.
        boolean[][] gone = around(0, left);
        return 1 - howMany(gone[1]) + lefts - 1 - size(gone[0], gone[1]) == lack;
    }

    /** Of things as nodes of both sides: whether some greatest antichain has a thing, and others apart from it. */
    boolean isInSomeAntichain(int thing, int width) {
        boolean[] gone = new boolean[lefts];
        for (int other = 0; other < lefts; other++) {
            gone[other] = other == thing || edges[thing][other] || edges[other][thing];
        }
        return 1 + lefts - howMany(gone) - size(gone, gone) == width;
    }
}
