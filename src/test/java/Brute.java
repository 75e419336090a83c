import java.util.ArrayList;
import java.util.List;

/** A small graph whose greatest pairings are all written out; every answer follows the document's words. */
final class Brute {
    static final int NONE = PairBench.NO;
    final int lefts;
    final int rights;
    final boolean[][] edges;
    /** Each greatest pairing as the partners of the left nodes. */
    final List<int[]> greatest = new ArrayList<>();
    private int size = 0;

    Brute(boolean[][] edges, int lefts, int rights) {
        this.edges = edges;
        this.lefts = lefts;
        this.rights = rights;
        collect(new int[lefts], 0, 0, new boolean[rights]);
    }

    private void collect(int[] partners, int left, int pairs, boolean[] taken) {
        if (left == lefts) {
            if (pairs > size) {
                greatest.clear();
                size = pairs;
            }
            if (pairs == size) {
                greatest.add(partners.clone());
            }
            return;
        }
        partners[left] = NONE;
        collect(partners, left + 1, pairs, taken);
        for (int right = 0; right < rights; right++) {
            if (edges[left][right] && !taken[right]) {
                taken[right] = true;
                partners[left] = right;
                collect(partners, left + 1, pairs + 1, taken);
                taken[right] = false;
            }
        }
        partners[left] = NONE;
    }

    int size() {
        return size;
    }

    int edgeCount() {
        int sum = 0;
        for (int l = 0; l < lefts; l++) {
            for (int r = 0; r < rights; r++) {
                sum += edges[l][r] ? 1 : 0;
            }
        }
        return sum;
    }

    int[] best() {
        int[] best = greatest.get(0);
        for (int[] other : greatest) {
            if (isBetter(other, best)) {
                best = other;
            }
        }
        return best;
    }

    private boolean isBetter(int[] a, int[] b) {
        for (int l = 0; l < lefts; l++) {
            if (a[l] != b[l]) {
                return b[l] == NONE || a[l] != NONE && a[l] < b[l];
            }
        }
        return false;
    }

    static int leftOf(int[] pairing, int right) {
        for (int l = 0; l < pairing.length; l++) {
            if (pairing[l] == right) {
                return l;
            }
        }
        return NONE;
    }

    int partner(int[] pairing, int side, int node) {
        return side == 0 ? pairing[node] : leftOf(pairing, node);
    }

    int edgeIs(int left, int right) {
        if (!edges[left][right]) {
            return PairBench.BAD;
        }
        int in = 0;
        for (int[] pairing : greatest) {
            in += pairing[left] == right ? 1 : 0;
        }
        return in == greatest.size() ? 2 : in > 0 ? 1 : 0;
    }

    int nodeIs(int side, int node) {
        for (int[] pairing : greatest) {
            if (partner(pairing, side, node) == NONE) {
                return 0;
            }
        }
        return 1;
    }

    int part(int side, int node) {
        if (nodeIs(side, node) == 0) {
            return side == 0 ? 0 : 2;
        }
        int others = side == 0 ? rights : lefts;
        for (int other = 0; other < others; other++) {
            boolean joined = side == 0 ? edges[node][other] : edges[other][node];
            if (joined && nodeIs(1 - side, other) == 0) {
                return side == 0 ? 2 : 0;
            }
        }
        return 1;
    }

    private boolean isCover(int leftSet, int rightSet) {
        for (int l = 0; l < lefts; l++) {
            for (int r = 0; r < rights; r++) {
                if (edges[l][r] && (leftSet >> l & 1) == 0 && (rightSet >> r & 1) == 0) {
                    return false;
                }
            }
        }
        return true;
    }

    /** The left and the right set of a cover of the least size with the most nodes of one side. */
    int[] cover(int which) {
        int[] found = null;
        int most = -1;
        for (int leftSet = 0; leftSet < 1 << lefts; leftSet++) {
            for (int rightSet = 0; rightSet < 1 << rights; rightSet++) {
                int nodes = Integer.bitCount(leftSet) + Integer.bitCount(rightSet);
                int wanted = Integer.bitCount(which == 0 ? leftSet : rightSet);
                if (nodes == size && wanted > most && isCover(leftSet, rightSet)) {
                    most = wanted;
                    found = new int[] {leftSet, rightSet};
                }
            }
        }
        return found;
    }

    private int lack(int set) {
        int partners = 0;
        for (int r = 0; r < rights; r++) {
            boolean met = false;
            for (int l = 0; l < lefts; l++) {
                met |= (set >> l & 1) != 0 && edges[l][r];
            }
            partners += met ? 1 : 0;
        }
        return Integer.bitCount(set) - partners;
    }

    int greatestLack() {
        int most = 0;
        for (int set = 0; set < 1 << lefts; set++) {
            most = Math.max(most, lack(set));
        }
        return most;
    }

    /** What all sets of the greatest lack share (0), or what they hold together (1). */
    int hall(int which) {
        int most = greatestLack();
        int shared = (1 << lefts) - 1;
        int together = 0;
        for (int set = 0; set < 1 << lefts; set++) {
            if (lack(set) == most) {
                shared &= set;
                together |= set;
            }
        }
        return which == 0 ? shared : together;
    }

    /** Whether a left node can be come to from another by the steps of the document, the last pairing kept. */
    boolean[][] steps() {
        int[] kept = greatest.get(greatest.size() - 1);
        boolean[][] come = new boolean[lefts][lefts];
        for (int l = 0; l < lefts; l++) {
            for (int r = 0; r < rights; r++) {
                int next = leftOf(kept, r);
                if (edges[l][r] && next != NONE) {
                    come[l][next] = true;
                }
            }
            come[l][l] = true;
        }
        return closed(come);
    }

    static boolean[][] closed(boolean[][] come) {
        int n = come.length;
        for (int via = 0; via < n; via++) {
            for (int a = 0; a < n; a++) {
                for (int b = 0; b < n; b++) {
                    come[a][b] |= come[a][via] && come[via][b];
                }
            }
        }
        return come;
    }

    /** The block of each left node, NONE outside part 1. */
    int[] blocks() {
        boolean[][] come = steps();
        int[] numbers = new int[lefts];
        int next = 0;
        for (int l = 0; l < lefts; l++) {
            numbers[l] = NONE;
            for (int k = 0; k < l && part(0, l) == 1 && numbers[l] == NONE; k++) {
                if (part(0, k) == 1 && come[l][k] && come[k][l]) {
                    numbers[l] = numbers[k];
                }
            }
            if (part(0, l) == 1 && numbers[l] == NONE) {
                numbers[l] = next++;
            }
        }
        return numbers;
    }

    /** How many things the longest way down from a thing has; known ones are kept, one higher. */
    static int level(boolean[][] below, int thing, int[] known) {
        if (known[thing] == 0) {
            int most = 0;
            for (int a = 0; a < below.length; a++) {
                if (below[a][thing]) {
                    most = Math.max(most, level(below, a, known) + 1);
                }
            }
            known[thing] = most + 1;
        }
        return known[thing] - 1;
    }

    /** How many chains begin at things of lesser numbers than the first one of a thing's chain. */
    static int chain(int[] next, int thing) {
        int first = thing;
        for (int before = leftOf(next, first); before >= 0; before = leftOf(next, first)) {
            first = before;
        }
        int number = 0;
        for (int other = 0; other < first; other++) {
            number += leftOf(next, other) < 0 ? 1 : 0;
        }
        return number;
    }
}
