import java.util.Arrays;

/**
 * A bench for two rows of nodes and the edges between them, and for things of which some are below others.
 *
 * <p>Every set of nodes or things is held as the bits of a long, for there are at most 50 of a kind. What follows
 * from the graph is worked out when it is first asked for after a change, into rows that the constructor made.
 */
public final class PairBench {
    public static final int BAD = -1;
    public static final int FULL = -2;
    public static final int NO = -3;

    private static final int LEFT = 0;
    private static final int RIGHT = 1;
    private static final int MOST_NODES = 50;
    private static final int MOST_THINGS = 40;
    private static final int MOST_TO_COUNT = 16;

    private final Graph graph;
    private final Pairing pairing;
    private final Blocks blocks;
    private final Tally tally;
    /** Each thing as a left node and a right one, an edge from left a to right b when a is below b. */
    private final Graph things;
    private final Pairing links;
    private final Order order;

    public PairBench() {
        graph = new Graph(MOST_NODES);
        pairing = new Pairing(graph);
        blocks = new Blocks(graph, pairing);
        tally = new Tally(graph, blocks);
        things = new Graph(MOST_THINGS);
        links = new Pairing(things);
        order = new Order(things, links);
    }

    public int node(int side) {
        return graph.add(side);
    }

    public int edge(int left, int right, boolean there) {
        if (!graph.holds(LEFT, left) || !graph.holds(RIGHT, right)) {
            return BAD;
        }
        if (graph.joins(left, right) == there) {
            return 0;
        }
        if (there) {
            graph.joinAll(1L << left, 1L << right);
        } else {
            graph.unjoin(left, right);
        }
        return 1;
    }

    public int count(int what) {
        switch (what) {
            case 0:
                return graph.sizeOf(LEFT);
            case 1:
                return graph.sizeOf(RIGHT);
            case 2:
                return graph.edges();
            case 9:
                return things.sizeOf(LEFT);
            case 10:
            case 11:
                links.refresh();
                order.refresh();
                return what == 10 ? things.sizeOf(LEFT) - links.pairs() : order.howManyLevels();
            default:
                pairing.refresh();
                blocks.refresh();
                return countFindings(what);
        }
    }

    /** What is counted in a graph that has been looked through. */
    private int countFindings(int what) {
        switch (what) {
            case 3:
                return pairing.pairs();
            case 4:
                return graph.sizeOf(LEFT) - pairing.pairs();
            case 5:
            case 6:
            case 7:
                return pairing.nodesInPart(what - 5);
            case 8:
                return blocks.howMany();
            default:
                return BAD;
        }
    }

    public boolean has(int left, int right) {
        return graph.joins(left, right);
    }

    public int partner(int side, int node) {
        if (!graph.holds(side, node)) {
            return BAD;
        }
        pairing.refresh();
        return pairing.mateOf(side, node);
    }

    public int edgeIs(int left, int right) {
        if (!graph.joins(left, right)) {
            return BAD;
        }
        pairing.refresh();
        blocks.refresh();
        if (!contains(blocks.usefulRights(left), right)) {
            return 0;
        }
        return blocks.isLonePair(left) ? 2 : 1;
    }

    public int nodeIs(int side, int node) {
        if (!graph.holds(side, node)) {
            return BAD;
        }
        pairing.refresh();
        // Part 0 is where left nodes can go without a partner, part 2 where right ones can.
        int bare = side == LEFT ? 0 : 2;
        return pairing.partOf(side, node) == bare ? 0 : 1;
    }

    public int cover(int which, int side, int node) {
        if (!isOneOfTwo(which) || !graph.holds(side, node)) {
            return BAD;
        }
        pairing.refresh();
        return pairing.isInCover(which, side, node) ? 1 : 0;
    }

    public int hall(int which, int left) {
        if (!isOneOfTwo(which) || !graph.holds(LEFT, left)) {
            return BAD;
        }
        pairing.refresh();
        // Left nodes of part 1 have as many partners as they are: they may be in the set or not.
        return pairing.partOf(LEFT, left) <= which ? 1 : 0;
    }

    public int part(int side, int node) {
        if (!graph.holds(side, node)) {
            return BAD;
        }
        pairing.refresh();
        return pairing.partOf(side, node);
    }

    public int block(int side, int node) {
        if (!graph.holds(side, node)) {
            return BAD;
        }
        pairing.refresh();
        blocks.refresh();
        return blocks.numberOf(side, node);
    }

    public int leads(int b, int c) {
        pairing.refresh();
        blocks.refresh();
        if (!blocks.holds(b) || !blocks.holds(c)) {
            return BAD;
        }
        return blocks.comesTo(b, c) ? 1 : 0;
    }

    public long pairings() {
        if (graph.sizeOf(LEFT) > MOST_TO_COUNT || graph.sizeOf(RIGHT) > MOST_TO_COUNT) {
            return NO;
        }
        pairing.refresh();
        blocks.refresh();
        tally.refresh();
        return tally.total();
    }

    public int thing() {
        things.add(LEFT);
        return things.add(RIGHT);
    }

    public int tell(int a, int b) {
        if (!things.holds(LEFT, a) || !things.holds(LEFT, b)) {
            return BAD;
        }
        if (a == b || things.joins(b, a)) {
            return NO;
        }
        if (things.joins(a, b)) {
            return 0;
        }
        long lower = things.across(RIGHT, a) | 1L << a;
        long upper = things.across(LEFT, b) | 1L << b;
        things.joinAll(lower, upper);
        return 1;
    }

    public boolean below(int a, int b) {
        return things.joins(a, b);
    }

    public int about(int thing, int what) {
        if (!things.holds(LEFT, thing)) {
            return BAD;
        }
        links.refresh();
        order.refresh();
        switch (what) {
            case 0:
                return order.chainOf(thing);
            case 1:
                return links.mateOf(LEFT, thing);
            case 2:
                return order.levelOf(thing);
            case 3:
            case 4:
                return order.isInAntichain(what - 3, thing) ? 1 : 0;
            default:
                return BAD;
        }
    }

    public int clearGraph() {
        int nodes = graph.sizeOf(LEFT) + graph.sizeOf(RIGHT);
        graph.clear();
        return nodes;
    }

    public int clearThings() {
        int gone = things.sizeOf(LEFT);
        things.clear();
        return gone;
    }

    private static boolean isOneOfTwo(int number) {
        return number == 0 || number == 1;
    }

    private static boolean contains(long set, int member) {
        return (set >>> member & 1L) != 0;
    }

    /** The least member of a set that is not empty. */
    private static int lowest(long set) {
        return Long.bitCount((set & -set) - 1);
    }

    /** Nodes on two sides and the edges between them. */
    private static final class Graph {
        private final int most;
        private final int[] sizes;
        /** For a side and a node of it, the nodes of the other side to which it has edges. */
        private final long[][] rows;
        private int changes;

        Graph(int most) {
            this.most = most;
            sizes = new int[2];
            rows = new long[2][most];
            changes = 0;
        }

        /** A number that is another one after each change: what was worked out before is old then. */
        int changes() {
            return changes;
        }

        int most() {
            return most;
        }

        int sizeOf(int side) {
            return isOneOfTwo(side) ? sizes[side] : 0;
        }

        boolean holds(int side, int node) {
            return isOneOfTwo(side) && node >= 0 && node < sizes[side];
        }

        boolean joins(int left, int right) {
            return holds(LEFT, left) && holds(RIGHT, right) && contains(rows[LEFT][left], right);
        }

        long all(int side) {
            return isOneOfTwo(side) ? (1L << sizes[side]) - 1 : 0L;
        }

        long across(int side, int node) {
            return holds(side, node) ? rows[side][node] : 0L;
        }

        /** All nodes that have an edge to a node of a set. */
        long neighbours(int side, long set) {
            long found = 0L;
            for (int node = 0; node < sizeOf(side); node++) {
                if (contains(set, node)) {
                    found |= rows[side][node];
                }
            }
            return found;
        }

        int edges() {
            int sum = 0;
            for (int left = 0; left < sizes[LEFT]; left++) {
                sum += Long.bitCount(rows[LEFT][left]);
            }
            return sum;
        }

        int add(int side) {
            if (!isOneOfTwo(side)) {
                return BAD;
            }
            int number = sizes[side];
            if (number >= most) {
                return FULL;
            }
            sizes[side] = number + 1;
            changes++;
            return number;
        }

        void joinAll(long lefts, long rights) {
            for (int left = 0; left < sizes[LEFT]; left++) {
                if (contains(lefts, left)) {
                    rows[LEFT][left] |= rights;
                }
            }
            for (int right = 0; right < sizes[RIGHT]; right++) {
                if (contains(rights, right)) {
                    rows[RIGHT][right] |= lefts;
                }
            }
            changes++;
        }

        void unjoin(int left, int right) {
            if (holds(LEFT, left) && holds(RIGHT, right)) {
                rows[LEFT][left] &= ~(1L << right);
                rows[RIGHT][right] &= ~(1L << left);
                changes++;
            }
        }

        void clear() {
            for (int side = LEFT; side <= RIGHT; side++) {
                sizes[side] = 0;
                Arrays.fill(rows[side], 0L);
            }
            changes++;
        }
    }

    /** The best pairing of a graph, and the three parts of the nodes. */
    private static final class Pairing {
        private final Graph graph;
        private final int[][] mates;
        private final long[] paired;
        /** The nodes that searches may use: the best pairing is settled from left 0 on, and what is settled is shut. */
        private final long[] open;
        private final long[][] parts;
        private final int[] queue;
        private final int[] cameFrom;
        private int pairs;
        private int known;

        Pairing(Graph graph) {
            this.graph = graph;
            mates = new int[2][graph.most()];
            paired = new long[2];
            open = new long[2];
            parts = new long[2][3];
            queue = new int[graph.most()];
            cameFrom = new int[graph.most()];
            pairs = 0;
            known = -1;
        }

        void refresh() {
            if (known == graph.changes()) {
                return;
            }
            known = graph.changes();
            begin();
            for (int round = 0; round < graph.most() && lengthen(); round++) {
                pairs++;
            }
            for (int left = 0; left < graph.sizeOf(LEFT); left++) {
                settle(left, choicesOf(left));
            }
            openAll();
            findParts();
        }

        int pairs() {
            return pairs;
        }

        int mateOf(int side, int node) {
            return graph.holds(side, node) ? mates[side][node] : NO;
        }

        long matesOf(int side, long set) {
            long found = 0L;
            long rest = set & graph.all(side);
            for (int more = Long.bitCount(rest); more > 0; more--) {
                int mate = mates[side][lowest(rest)];
                rest &= rest - 1;
                if (mate != NO) {
                    found |= 1L << mate;
                }
            }
            return found;
        }

        long nodesOfPart(int side, int part) {
            return parts[side][part];
        }

        int partOf(int side, int node) {
            if (contains(parts[side][0], node)) {
                return 0;
            }
            return contains(parts[side][2], node) ? 2 : 1;
        }

        int nodesInPart(int part) {
            return Long.bitCount(parts[LEFT][part]) + Long.bitCount(parts[RIGHT][part]);
        }

        /** Least covers differ in part 1 alone: cover 0 takes all its left nodes, cover 1 all its right ones. */
        boolean isInCover(int which, int side, int node) {
            int part = partOf(side, node);
            if (part == 1) {
                return side == which;
            }
            return side == LEFT ? part == 2 : part == 0;
        }

        private void begin() {
            for (int side = LEFT; side <= RIGHT; side++) {
                Arrays.fill(mates[side], NO);
                paired[side] = 0L;
            }
            pairs = 0;
            openAll();
        }

        private void openAll() {
            open[LEFT] = graph.all(LEFT);
            open[RIGHT] = graph.all(RIGHT);
        }

        private long bare(int side) {
            return open[side] & ~paired[side];
        }

        private void pair(int left, int right) {
            mates[LEFT][left] = right;
            mates[RIGHT][right] = left;
            paired[LEFT] |= 1L << left;
            paired[RIGHT] |= 1L << right;
        }

        private void loosen(int side, int node) {
            int mate = mates[side][node];
            if (mate != NO) {
                mates[side][node] = NO;
                mates[1 - side][mate] = NO;
                paired[side] &= ~(1L << node);
                paired[1 - side] &= ~(1L << mate);
            }
        }

        /** Finds one pair more among the open nodes; false when their pairing is a greatest one already. */
        private boolean lengthen() {
            int tail = 0;
            long starts = bare(LEFT);
            for (int left = 0; left < graph.sizeOf(LEFT); left++) {
                if (contains(starts, left)) {
                    queue[tail++] = left;
                }
            }
            long rest = open[RIGHT];
            for (int head = 0; head < tail; head++) {
                int left = queue[head];
                long fresh = graph.across(LEFT, left) & rest;
                rest &= ~fresh;
                for (int more = Long.bitCount(fresh); more > 0; more--) {
                    int right = lowest(fresh);
                    fresh &= fresh - 1;
                    cameFrom[right] = left;
                    int mate = mates[RIGHT][right];
                    if (mate == NO) {
                        pairAlongPath(right);
                        return true;
                    }
                    // Each right node is met once, so each left one is in the queue once.
                    if (tail < queue.length) {
                        queue[tail++] = mate;
                    }
                }
            }
            return false;
        }

        private void pairAlongPath(int end) {
            int right = end;
            for (int step = 0; step < graph.most() && right != NO; step++) {
                int left = cameFrom[right];
                int given = mates[LEFT][left];
                pair(left, right);
                right = given;
            }
        }

        /** The nodes of a side that can be come to by steps, each over an edge and back with the partner there. */
        private long reach(int side, long starts) {
            long reached = starts;
            long waiting = starts;
            long rest = open[1 - side];
            for (int step = 0; step < graph.most() && waiting != 0; step++) {
                long fresh = graph.across(side, lowest(waiting)) & rest;
                rest &= ~fresh;
                waiting &= waiting - 1;
                long found = matesOf(1 - side, fresh) & ~reached;
                reached |= found;
                waiting |= found;
            }
            return reached;
        }

        /** The right nodes that a left one is paired with in greatest pairings of the open nodes. */
        private long choicesOf(int left) {
            long all = graph.across(LEFT, left) & open[RIGHT];
            int mate = mates[LEFT][left];
            if (mate == NO) {
                return all;
            }
            // A right node can be had if the left one that gives it up finds another: a bare one or the mate left
            // behind; or if a bare left node can take that mate.
            long reached = reach(RIGHT, bare(RIGHT) | 1L << mate);
            if ((graph.neighbours(RIGHT, reached) & bare(LEFT)) != 0) {
                return all;
            }
            return all & reached;
        }

        /** Pairs a left node with the least of its choices, and takes no more of it or its partner. */
        private void settle(int left, long choices) {
            open[LEFT] &= ~(1L << left);
            if (choices == 0) {
                return;
            }
            int right = lowest(choices);
            open[RIGHT] &= ~(1L << right);
            if (mates[LEFT][left] != right) {
                loosen(LEFT, left);
                loosen(RIGHT, right);
                pair(left, right);
                // Where two pairs gave way to this one, the other open nodes have one more among them.
                lengthen();
            }
        }

        private void findParts() {
            parts[LEFT][0] = reach(LEFT, bare(LEFT));
            parts[RIGHT][0] = graph.neighbours(LEFT, parts[LEFT][0]);
            parts[RIGHT][2] = reach(RIGHT, bare(RIGHT));
            parts[LEFT][2] = graph.neighbours(RIGHT, parts[RIGHT][2]);
            for (int side = LEFT; side <= RIGHT; side++) {
                parts[side][1] = graph.all(side) & ~parts[side][0] & ~parts[side][2];
            }
        }
    }

    /** The blocks of part 1; the pairing must be fresh when this is refreshed. */
    private static final class Blocks {
        private final Graph graph;
        private final Pairing pairing;
        /** For a left node of part 1, the left nodes that can be come to from it, itself too. */
        private final long[] reached;
        private final int[] numbers;
        /** For a block, its left nodes, and all left nodes that can be come to from it. */
        private final long[] lefts;
        private final long[] onward;
        private int size;
        private int known;

        Blocks(Graph graph, Pairing pairing) {
            this.graph = graph;
            this.pairing = pairing;
            reached = new long[MOST_NODES];
            numbers = new int[MOST_NODES];
            lefts = new long[MOST_NODES];
            onward = new long[MOST_NODES];
            size = 0;
            known = -1;
        }

        void refresh() {
            if (known == graph.changes()) {
                return;
            }
            known = graph.changes();
            findReached();
            numberAll();
        }

        int howMany() {
            return size;
        }

        boolean holds(int number) {
            return number >= 0 && number < size;
        }

        int numberOf(int side, int node) {
            int left = side == LEFT ? node : pairing.mateOf(RIGHT, node);
            return graph.holds(LEFT, left) ? numbers[left] : NO;
        }

        boolean comesTo(int from, int to) {
            if (from == to || !holds(from) || !holds(to)) {
                return false;
            }
            return (onward[from] & lefts[to]) != 0;
        }

        /** Whether a left node of part 1 is alone with its partner in its block. */
        boolean isLonePair(int left) {
            int number = numberOf(LEFT, left);
            return holds(number) && Long.bitCount(lefts[number]) == 1;
        }

        /** The right nodes that a left one is paired with in greatest pairings. */
        long usefulRights(int left) {
            int number = numberOf(LEFT, left);
            long sameKind = holds(number)
                    ? pairing.matesOf(LEFT, lefts[number])
                    : pairing.nodesOfPart(RIGHT, pairing.partOf(LEFT, left));
            return graph.across(LEFT, left) & sameKind;
        }

        private void findReached() {
            int end = graph.sizeOf(LEFT);
            long inner = pairing.nodesOfPart(LEFT, 1);
            for (int left = 0; left < end; left++) {
                reached[left] = contains(inner, left)
                        ? pairing.matesOf(RIGHT, graph.across(LEFT, left)) & inner
                        : 0L;
            }
            for (int via = 0; via < end; via++) {
                for (int left = 0; left < end; left++) {
                    if (contains(reached[left], via)) {
                        reached[left] |= reached[via];
                    }
                }
            }
        }

        private void numberAll() {
            Arrays.fill(numbers, NO);
            size = 0;
            long inner = pairing.nodesOfPart(LEFT, 1);
            for (int first = 0; first < graph.sizeOf(LEFT); first++) {
                if (contains(inner, first) && numbers[first] == NO && size < lefts.length) {
                    lefts[size] = gather(first);
                    onward[size] = reached[first];
                    size++;
                }
            }
        }

        private long gather(int first) {
            long found = 0L;
            for (int left = 0; left < graph.sizeOf(LEFT); left++) {
                if (contains(reached[first], left) && contains(reached[left], first)) {
                    found |= 1L << left;
                    numbers[left] = size;
                }
            }
            return found;
        }
    }

    /** How many greatest pairings there are; the blocks must be fresh when this is refreshed. */
    private static final class Tally {
        private final Graph graph;
        private final Blocks blocks;
        private final long[] useful;
        private final int[] choices;
        /** For a set of columns, in how many ways as many first rows can take just these; made as large as needed. */
        private long[] ways;
        private long total;
        private int known;

        Tally(Graph graph, Blocks blocks) {
            this.graph = graph;
            this.blocks = blocks;
            useful = new long[MOST_TO_COUNT];
            choices = new int[MOST_TO_COUNT];
            ways = new long[1];
            total = 1L;
            known = -1;
        }

        /** Pieces without edges between them are paired each for itself, so their numbers are multiplied. */
        void refresh() {
            if (known == graph.changes()) {
                return;
            }
            known = graph.changes();
            for (int left = 0; left < lefts(); left++) {
                useful[left] = blocks.usefulRights(left);
            }
            total = 1L;
            long waiting = graph.all(LEFT);
            for (int left = 0; left < lefts(); left++) {
                if (contains(waiting, left)) {
                    long piece = pieceOf(left);
                    waiting &= ~piece;
                    total *= waysToPair(piece);
                }
            }
        }

        long total() {
            return total;
        }

        private int lefts() {
            return Math.min(graph.sizeOf(LEFT), MOST_TO_COUNT);
        }

        /** The left nodes that hang together with one by useful edges. */
        private long pieceOf(int first) {
            long piece = 1L << first;
            long rights = useful[first];
            for (int round = 1; round < lefts(); round++) {
                for (int left = 0; left < lefts(); left++) {
                    if ((useful[left] & rights) != 0) {
                        piece |= 1L << left;
                        rights |= useful[left];
                    }
                }
            }
            return piece;
        }

        /** In a piece the smaller side has all its nodes paired, so its nodes are the rows that must choose. */
        private long waysToPair(long piece) {
            long rights = 0L;
            for (int left = 0; left < lefts(); left++) {
                if (contains(piece, left)) {
                    rights |= useful[left];
                }
            }
            int leftCount = Long.bitCount(piece);
            int rightCount = Long.bitCount(rights);
            boolean turned = leftCount > rightCount;
            setChoices(piece, rights, turned);
            return turned ? waysToChoose(rightCount, leftCount) : waysToChoose(leftCount, rightCount);
        }

        private void setChoices(long piece, long rights, boolean turned) {
            Arrays.fill(choices, 0);
            int i = 0;
            for (int left = 0; left < lefts(); left++) {
                if (!contains(piece, left)) {
                    continue;
                }
                int j = 0;
                for (int right = 0; right < MOST_TO_COUNT; right++) {
                    if (!contains(rights, right)) {
                        continue;
                    }
                    if (contains(useful[left], right)) {
                        int row = turned ? j : i;
                        int column = turned ? i : j;
                        choices[row] |= 1 << column;
                    }
                    j++;
                }
                i++;
            }
        }

        private long waysToChoose(int rows, int columns) {
            int sets = 1 << Math.min(columns, MOST_TO_COUNT);
            if (ways.length < sets) {
                ways = new long[sets];
            }
            for (int taken = 1; taken < sets; taken++) {
                ways[taken] = 0L;
            }
            ways[0] = 1L;
            long sum = 0L;
            for (int taken = 0; taken < sets; taken++) {
                int row = Integer.bitCount(taken);
                if (ways[taken] == 0 || row > rows) {
                    continue;
                }
                if (row == rows) {
                    sum += ways[taken];
                    continue;
                }
                int free = choices[row] & ~taken;
                for (int column = 1; column < sets; column <<= 1) {
                    if ((free & column) != 0) {
                        ways[taken | column] += ways[taken];
                    }
                }
            }
            return sum;
        }
    }

    /** Levels, chains and antichains of the things; their links must be fresh when this is refreshed. */
    private static final class Order {
        private final Graph things;
        private final Pairing links;
        private final int[] levels;
        private final int[] chains;
        private int levelCount;
        private int known;

        Order(Graph things, Pairing links) {
            this.things = things;
            this.links = links;
            levels = new int[MOST_THINGS];
            chains = new int[MOST_THINGS];
            levelCount = 0;
            known = -1;
        }

        void refresh() {
            if (known == things.changes()) {
                return;
            }
            known = things.changes();
            findLevels();
            findChains();
        }

        int howManyLevels() {
            return levelCount;
        }

        int levelOf(int thing) {
            return things.holds(LEFT, thing) ? levels[thing] : NO;
        }

        int chainOf(int thing) {
            return things.holds(LEFT, thing) ? chains[thing] : NO;
        }

        /**
         * The things of which neither node is in a least cover are a greatest antichain. A cover has the left nodes
         * of what is below the antichain and the right ones of what is above, so most right ones makes the lowest.
         */
        boolean isInAntichain(int which, int thing) {
            int cover = 1 - which;
            return !links.isInCover(cover, LEFT, thing) && !links.isInCover(cover, RIGHT, thing);
        }

        private void findLevels() {
            long rest = things.all(LEFT);
            levelCount = 0;
            for (int level = 0; level < MOST_THINGS && rest != 0; level++) {
                long bottom = bottomOf(rest);
                for (int thing = 0; thing < things.sizeOf(LEFT); thing++) {
                    if (contains(bottom, thing)) {
                        levels[thing] = level;
                    }
                }
                rest &= ~bottom;
                levelCount++;
            }
        }

        /** The things of a set that have no other of it below them. */
        private long bottomOf(long set) {
            long bottom = 0L;
            for (int thing = 0; thing < things.sizeOf(LEFT); thing++) {
                if (contains(set, thing) && (things.across(RIGHT, thing) & set) == 0) {
                    bottom |= 1L << thing;
                }
            }
            return bottom;
        }

        private void findChains() {
            int number = 0;
            for (int first = 0; first < things.sizeOf(LEFT); first++) {
                if (links.mateOf(RIGHT, first) == NO) {
                    numberChain(first, number);
                    number++;
                }
            }
        }

        private void numberChain(int first, int number) {
            int thing = first;
            for (int step = 0; step < MOST_THINGS && things.holds(LEFT, thing); step++) {
                chains[thing] = number;
                thing = links.mateOf(LEFT, thing);
            }
        }
    }
}
