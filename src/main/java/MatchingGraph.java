import java.util.Arrays;

/**
 * Matchings in graphs: matchings that are made, extended by augmenting paths through odd cycles,
 * and repaired behind edits; maximum matchings with proofs of their size, the parts of the nodes,
 * the first of all maximum matchings and their numbers, and what single edges and nodes mean for
 * them.
 *
 * <p>A set of nodes is an int everywhere, in which node n stands for bit n.
 */
public final class MatchingGraph {
    /** There is no such number. */
    public static final int NONE = -1;

    private static final int LEAST_NODES = 2;
    private static final int MOST_NODES = 12;
    private static final int NODES_AT_FIRST = 6;
    private static final int MOST_PAIRS = MOST_NODES / 2;
    private static final int MOST_CHARACTERS = 60;
    private static final int LOWEST_CODE = 32;
    private static final int HIGHEST_CODE = 126;
    private static final int MOST_KEPT = 4;

    private static final int PART_EXPOSABLE = 0;
    private static final int PART_BESIDE = 1;
    private static final int PART_OTHER = 2;

    private final Graph graph;
    private final Matching matching;
    private final Input input;
    private final History history;
    private final Paths paths;
    private final Maxima maxima;
    private final Graph differing;

    /** Creates a graph with 6 nodes and without edges; the buffer is empty. */
    public MatchingGraph() {
        graph = new Graph();
        matching = new Matching();
        input = new Input();
        history = new History();
        paths = new Paths(graph, matching);
        maxima = new Maxima(graph);
        differing = new Graph();
    }

    // ---- graphs

    /** Begins anew with a graph without edges and an empty matching. */
    public int begin(int nodes) throws IllegalArgumentException {
        if (nodes < LEAST_NODES || nodes > MOST_NODES) {
            throw new IllegalArgumentException("a graph has 2 to 12 nodes");
        }
        int previous = graph.nodes;
        graph.clear(nodes);
        matching.clear();
        history.clear();
        return previous;
    }

    /** Adds an edge, or removes it. */
    public int setEdge(int one, int other, boolean on)
            throws IndexOutOfBoundsException, IllegalArgumentException {
        requireNode(one);
        requireNode(other);
        requireDifferent(one, other);
        history.save(graph, matching);
        int before = graph.joined(one, other) ? 1 : 0;
        graph.put(one, other, on);
        if (!on && matching.has(one, other)) {
            matching.part(one);
        }
        return before;
    }

    // ---- input

    /** Appends a character to the input buffer. */
    public int append(int code) throws IllegalArgumentException, IllegalStateException {
        if (code < LOWEST_CODE || code > HIGHEST_CODE) {
            throw new IllegalArgumentException("a character code is 32 to 126");
        }
        if (input.length >= MOST_CHARACTERS) {
            throw new IllegalStateException("the buffer is full");
        }
        input.add(code);
        return input.length;
    }

    /** Clears the input buffer. */
    public int clearInput() {
        int before = input.length;
        input.length = 0;
        return before;
    }

    /** Finds the first syntax error of the buffer. */
    public int firstError() {
        return input.errorPlace(graph.nodes);
    }

    /** Adds the edges in the buffer, one after the other, and clears the buffer. */
    public int load() throws IllegalArgumentException {
        if (!input.isComplete(graph.nodes)) {
            throw new IllegalArgumentException("the buffer is not a complete text");
        }
        history.save(graph, matching);
        int added = 0;
        int place = 0;
        while (place + 1 < input.length) {
            boolean marked = input.isMarked(place);
            added += addRead(input.nodeAt(place), input.nodeAt(place + 1), marked);
            place += marked ? 4 : 3;
        }
        input.length = 0;
        return added;
    }

    /** Returns 1 if the edge was not there before, else 0. */
    private int addRead(int one, int other, boolean marked) {
        int added = graph.joined(one, other) ? 0 : 1;
        graph.put(one, other, true);
        if (marked && matching.isExposed(one) && matching.isExposed(other)) {
            matching.join(one, other);
        }
        return added;
    }

    // ---- the matching

    /** Adds an edge to the matching. */
    public int match(int one, int other) throws IndexOutOfBoundsException, IllegalStateException {
        requireNode(one);
        requireNode(other);
        if (!graph.joined(one, other)) {
            throw new IllegalStateException("the nodes are not adjacent");
        }
        requireExposed(one);
        requireExposed(other);
        history.save(graph, matching);
        matching.join(one, other);
        return matching.size();
    }

    /** Removes an edge from the matching. */
    public int unmatch(int node) throws IndexOutOfBoundsException, IllegalStateException {
        requireNode(node);
        if (matching.isExposed(node)) {
            throw new IllegalStateException("the node is exposed");
        }
        history.save(graph, matching);
        int mate = matching.mate[node];
        matching.part(node);
        return mate;
    }

    /** Augments along the way of a node, if there is one. */
    public int augment(int node) throws IndexOutOfBoundsException, IllegalStateException {
        requireNode(node);
        requireExposed(node);
        history.save(graph, matching);
        return augmentFrom(node);
    }

    /** Augments along the way of the lowest exposed node that has one, until there is none. */
    public int maximize() {
        history.save(graph, matching);
        int times = 0;
        while (times < MOST_PAIRS && augmentLowest()) {
            times++;
        }
        return times;
    }

    private boolean augmentLowest() {
        for (int node = 0; node < graph.nodes; node++) {
            if (matching.isExposed(node) && augmentFrom(node) > 0) {
                return true;
            }
        }
        return false;
    }

    private int augmentFrom(int node) {
        int length = paths.findWay(node);
        if (length > 0) {
            matching.swapAlong(paths.wayNodes, length);
        }
        return length;
    }

    /** Replaces the matching by the first maximum matching. */
    public int takeFirst() {
        history.save(graph, matching);
        Matching first = maxima.first();
        int fresh = 0;
        for (int node = 0; node < graph.nodes; node++) {
            int mate = first.mate[node];
            if (mate > node && !matching.has(node, mate)) {
                fresh++;
            }
        }
        matching.copyFrom(first.mate);
        return fresh;
    }

    /** Undoes the latest edit that is kept. */
    public int undo() throws IllegalStateException {
        if (history.kept == 0) {
            throw new IllegalStateException("no edit is kept");
        }
        history.restore(graph, matching);
        return history.kept;
    }

    // ---- paths

    /** Returns the length of the way of a node. */
    public int way(int node) throws IndexOutOfBoundsException, IllegalStateException {
        requireNode(node);
        requireExposed(node);
        return paths.findWay(node);
    }

    /** Returns a node of the way of a node. */
    public int wayNode(int node, int place)
            throws IndexOutOfBoundsException, IllegalStateException {
        requireNode(node);
        requireExposed(node);
        int length = paths.findWay(node);
        if (length == 0 || place < 0 || place > length) {
            return NONE;
        }
        return paths.wayNodes[place];
    }

    /** Returns the nodes to which alternating paths from a node lead. */
    public int reach(int node, boolean even) throws IndexOutOfBoundsException {
        requireNode(node);
        if (!matching.isExposed(node)) {
            return 0;
        }
        paths.findEnds(node);
        return even ? paths.evenEnds : paths.oddEnds;
    }

    /** Returns the length of the shortest cycle with an odd length. */
    public int oddCycle() {
        int shortest = NONE;
        for (int node = 0; node < graph.nodes; node++) {
            int length = graph.shortestOddWalk(node);
            if (length != NONE && (shortest == NONE || length < shortest)) {
                shortest = length;
            }
        }
        return shortest;
    }

    // ---- maximum matchings

    /** Returns the mate of a node in the first maximum matching. */
    public int firstMate(int node) throws IndexOutOfBoundsException {
        requireNode(node);
        return maxima.first().mate[node];
    }

    /** Returns the least proof. */
    public int proof() {
        int all = graph.all();
        // Every maximum matching matches all nodes of a proof, so none of part 0 is in one.
        int exposable = maxima.exposable();
        int least = 0;
        int fewest = MOST_NODES + 1;
        for (int set = 0; set <= all && fewest > 0; set++) {
            int size = Integer.bitCount(set);
            if (size < fewest && (set & exposable) == 0 && isProof(set, size)) {
                least = set;
                fewest = size;
            }
        }
        return least;
    }

    private boolean isProof(int set, int size) {
        return graph.pieces(graph.all() & ~set, true) == size + deficiency();
    }

    /** Counts the components of the graph without some nodes. */
    public int components(int without, boolean odd) throws IllegalArgumentException {
        if (without < 0 || without > graph.all()) {
            throw new IllegalArgumentException("a bit stands for no node");
        }
        return graph.pieces(graph.all() & ~without, odd);
    }

    /** Returns the number of the graph if an edge were changed. */
    public int ifChanged(int one, int other)
            throws IndexOutOfBoundsException, IllegalArgumentException {
        requireNode(one);
        requireNode(other);
        requireDifferent(one, other);
        int number = maxima.number();
        if (graph.joined(one, other)) {
            // Only an edge that no maximum matching can do without is missed.
            return maxima.having(one, other) == maxima.howMany() ? number - 1 : number;
        }
        return Math.max(number, maxima.numberWithout(one, other) + 1);
    }

    // ---- what there is

    /** Returns a property of a node. */
    public int node(int node, int what)
            throws IndexOutOfBoundsException, IllegalArgumentException {
        requireNode(node);
        switch (what) {
            case 0:
                return Integer.bitCount(graph.near[node]);
            case 1:
                return matching.mate[node];
            case 2:
                return partOf(node);
            case 3:
                return maxima.exposing(node);
            case 4:
                return Integer.numberOfTrailingZeros(graph.pieceOf(node, graph.all()));
            default:
                throw new IllegalArgumentException("a node has the properties 0 to 4");
        }
    }

    private int partOf(int node) {
        int exposable = maxima.exposable();
        if ((exposable >> node & 1) != 0) {
            return PART_EXPOSABLE;
        }
        return (exposable & graph.near[node]) != 0 ? PART_BESIDE : PART_OTHER;
    }

    /** Returns a property of a pair of nodes. */
    public int edge(int one, int other, int what)
            throws IndexOutOfBoundsException, IllegalArgumentException {
        requireNode(one);
        requireNode(other);
        switch (what) {
            case 0:
                return graph.joined(one, other) ? 1 : 0;
            case 1:
                return matching.has(one, other) ? 1 : 0;
            case 2:
                return maxima.having(one, other);
            default:
                throw new IllegalArgumentException("a pair has the properties 0 to 2");
        }
    }

    /** Returns a number. */
    public int count(int what) throws IllegalArgumentException {
        switch (what) {
            case 0:
                return graph.nodes;
            case 1:
                return graph.edges();
            case 2:
                return matching.size();
            case 3:
                return maxima.number();
            case 4:
                return deficiency();
            case 5:
                return maxima.howMany();
            case 6:
                return maxima.edgesHadBy(maxima.howMany());
            case 7:
                return maxima.edgesHadBy(0);
            case 8:
                return maxima.isCritical() ? 1 : 0;
            case 9:
                return graph.pieces(graph.all(), false);
            case 10:
                return history.kept;
            default:
                throw new IllegalArgumentException("the numbers are 0 to 10");
        }
    }

    private int deficiency() {
        return graph.nodes - 2 * maxima.number();
    }

    /** Compares the matching with the first maximum matching. */
    public int difference(int what) throws IllegalArgumentException {
        if (what != 0 && what != 1) {
            throw new IllegalArgumentException("the differences are 0 and 1");
        }
        drawDifferences(maxima.first());
        int cycles = 0;
        int openPaths = 0;
        for (int node = 0; node < graph.nodes; node++) {
            int piece = differing.pieceOf(node, graph.all());
            boolean isLowest = Integer.numberOfTrailingZeros(piece) == node;
            if (isLowest && Integer.bitCount(piece) > 1) {
                boolean closed = differing.hasNoEnd(piece);
                cycles += closed ? 1 : 0;
                openPaths += closed ? 0 : 1;
            }
        }
        return what == 0 ? cycles : openPaths;
    }

    /** Makes a graph of the edges that are in just one of both matchings. */
    private void drawDifferences(Matching first) {
        differing.clear(graph.nodes);
        for (int node = 0; node < graph.nodes; node++) {
            int now = matching.mate[node];
            int then = first.mate[node];
            if (now != NONE && now != then) {
                differing.put(node, now, true);
            }
            if (then != NONE && now != then) {
                differing.put(node, then, true);
            }
        }
    }

    /** Returns how often edges are in maximum matchings. */
    public double meanUse() {
        int all = graph.edges() * maxima.howMany();
        if (all == 0) {
            return 0.0;
        }
        int sum = 0;
        for (int one = 0; one < graph.nodes; one++) {
            for (int other = one + 1; other < graph.nodes; other++) {
                sum += maxima.having(one, other);
            }
        }
        return (double) sum / all;
    }

    /** Computes a hash of the whole state. */
    public long digest() {
        long hash = 2003;
        for (int what = 0; what <= 10; what++) {
            hash = mix(hash, count(what));
        }
        for (int node = 0; node < graph.nodes; node++) {
            hash = mixNode(hash, node);
        }
        for (int one = 0; one < graph.nodes; one++) {
            for (int other = one + 1; other < graph.nodes; other++) {
                hash = mixPair(hash, one, other);
            }
        }
        hash = mix(hash, proof());
        hash = mix(hash, oddCycle());
        hash = mix(hash, difference(0));
        hash = mix(hash, difference(1));
        return mixInput(hash);
    }

    private long mixNode(long before, int node) {
        long hash = before;
        for (int what = 0; what <= 4; what++) {
            hash = mix(hash, node(node, what));
        }
        hash = mix(hash, firstMate(node));
        hash = mix(hash, reach(node, true));
        hash = mix(hash, reach(node, false));
        return matching.isExposed(node) ? mix(hash, way(node)) : hash;
    }

    private long mixPair(long before, int one, int other) {
        long hash = before;
        for (int what = 0; what <= 2; what++) {
            hash = mix(hash, edge(one, other, what));
        }
        return hash;
    }

    private long mixInput(long before) {
        long hash = mix(before, input.length);
        for (int place = 0; place < input.length; place++) {
            hash = mix(hash, input.codes[place]);
        }
        return hash;
    }

    private static long mix(long hash, long value) {
        return 31 * hash + value;
    }

    private void requireNode(int node) {
        if (node < 0 || node >= graph.nodes) {
            throw new IndexOutOfBoundsException("there is no such node");
        }
    }

    private static void requireDifferent(int one, int other) {
        if (one == other) {
            throw new IllegalArgumentException("both nodes are the same");
        }
    }

    private void requireExposed(int node) {
        if (!matching.isExposed(node)) {
            throw new IllegalStateException("the node is matched");
        }
    }

    /** Nodes and the edges between them. */
    private static final class Graph {
        private int nodes = NODES_AT_FIRST;
        private final int[] near = new int[MOST_NODES];
        /** Tells those who remember something of the graph that it is another one now. */
        private int changes = 0;

        void clear(int newNodes) {
            nodes = newNodes;
            Arrays.fill(near, 0);
            changes++;
        }

        void copyFrom(int[] otherNear) {
            System.arraycopy(otherNear, 0, near, 0, MOST_NODES);
            changes++;
        }

        int all() {
            return (1 << nodes) - 1;
        }

        boolean joined(int one, int other) {
            return (near[one] >> other & 1) != 0;
        }

        void put(int one, int other, boolean on) {
            if (joined(one, other) != on) {
                near[one] ^= 1 << other;
                near[other] ^= 1 << one;
                changes++;
            }
        }

        int edges() {
            int ends = 0;
            for (int node = 0; node < nodes; node++) {
                ends += Integer.bitCount(near[node]);
            }
            return ends / 2;
        }

        /** Returns the component of a node in the graph that has the nodes of a set alone. */
        int pieceOf(int node, int within) {
            int found = 1 << node;
            int open = found;
            for (int steps = 0; steps < nodes && open != 0; steps++) {
                int next = Integer.numberOfTrailingZeros(open);
                int fresh = near[next] & within & ~found;
                found |= fresh;
                open = open & ~(1 << next) | fresh;
            }
            return found;
        }

        /** Counts the components of the graph that has the nodes of a set alone. */
        int pieces(int within, boolean odd) {
            int left = within;
            int number = 0;
            for (int node = 0; node < nodes; node++) {
                if ((left >> node & 1) != 0) {
                    int piece = pieceOf(node, within);
                    left &= ~piece;
                    number += odd ? Integer.bitCount(piece) & 1 : 1;
                }
            }
            return number;
        }

        /**
         * Returns the length of the shortest closed walk of an odd length through a node, NONE if
         * there is none. The shortest one of all nodes repeats no node, so it is a cycle.
         */
        int shortestOddWalk(int node) {
            int ends = 1 << node;
            for (int length = 1; length <= nodes; length++) {
                ends = besides(ends);
                if (length % 2 == 1 && (ends >> node & 1) != 0) {
                    return length;
                }
            }
            return NONE;
        }

        private int besides(int set) {
            int found = 0;
            for (int node = 0; node < nodes; node++) {
                if ((set >> node & 1) != 0) {
                    found |= near[node];
                }
            }
            return found;
        }

        boolean hasNoEnd(int set) {
            for (int node = 0; node < nodes; node++) {
                if ((set >> node & 1) != 0 && Integer.bitCount(near[node]) < 2) {
                    return false;
                }
            }
            return true;
        }
    }

    /** A set of edges of which no two have a node in common. */
    private static final class Matching {
        private final int[] mate = new int[MOST_NODES];

        Matching() {
            Arrays.fill(mate, NONE);
        }

        void clear() {
            Arrays.fill(mate, NONE);
        }

        void copyFrom(int[] otherMate) {
            System.arraycopy(otherMate, 0, mate, 0, MOST_NODES);
        }

        boolean isExposed(int node) {
            return mate[node] == NONE;
        }

        boolean has(int one, int other) {
            return mate[one] == other;
        }

        void join(int one, int other) {
            mate[one] = other;
            mate[other] = one;
        }

        void part(int node) {
            int other = mate[node];
            if (other != NONE) {
                mate[other] = NONE;
                mate[node] = NONE;
            }
        }

        int size() {
            int size = 0;
            for (int node = 0; node < MOST_NODES; node++) {
                if (mate[node] > node) {
                    size++;
                }
            }
            return size;
        }

        /** Augments along a path of a length; each of its nodes gets another mate by it. */
        void swapAlong(int[] path, int length) {
            for (int place = 0; place < length; place += 2) {
                join(path[place], path[place + 1]);
            }
        }
    }

    /** The input buffer and how it is read. */
    private static final class Input {
        /** What was read last, which decides what may come next. */
        private static final int NOTHING = 0;
        private static final int LOWER = 1;
        private static final int EDGE = 2;
        private static final int MARK = 3;
        private static final int WRONG = 4;

        private final int[] codes = new int[MOST_CHARACTERS];
        private int length = 0;

        void add(int code) {
            if (length < MOST_CHARACTERS) {
                codes[length] = code;
                length++;
            }
        }

        int errorPlace(int nodes) {
            int state = NOTHING;
            for (int place = 0; place < length; place++) {
                state = stateAt(place, state, nodes);
                if (state == WRONG) {
                    return place;
                }
            }
            return length;
        }

        boolean isComplete(int nodes) {
            int state = NOTHING;
            for (int place = 0; place < length; place++) {
                state = stateAt(place, state, nodes);
            }
            return state == EDGE || state == MARK;
        }

        private int stateAt(int place, int before, int nodes) {
            int node = nodeAt(place);
            boolean ends = codes[place] == ',';
            switch (before) {
                case NOTHING:
                    return node >= 0 && node < nodes - 1 ? LOWER : WRONG;
                case LOWER:
                    return place > 0 && node > nodeAt(place - 1) && node < nodes ? EDGE : WRONG;
                case EDGE:
                    return ends ? NOTHING : codes[place] == '!' ? MARK : WRONG;
                case MARK:
                    return ends ? NOTHING : WRONG;
                default:
                    return WRONG;
            }
        }

        int nodeAt(int place) {
            return codes[place] - 'a';
        }

        /** Tells whether "!" follows the edge that begins at a place. */
        boolean isMarked(int place) {
            return place + 2 < length && codes[place + 2] == '!';
        }
    }

    /** The graphs and matchings before the latest edits; the number of nodes is the same in all. */
    private static final class History {
        private final int[][] nears = new int[MOST_KEPT][MOST_NODES];
        private final int[][] mates = new int[MOST_KEPT][MOST_NODES];
        private int latest = 0;
        private int kept = 0;

        void clear() {
            kept = 0;
        }

        void save(Graph graph, Matching matching) {
            // The row behind the latest one is free, or it is the oldest one.
            latest = (latest + 1) % MOST_KEPT;
            System.arraycopy(graph.near, 0, nears[latest], 0, MOST_NODES);
            System.arraycopy(matching.mate, 0, mates[latest], 0, MOST_NODES);
            kept = Math.min(kept + 1, MOST_KEPT);
        }

        void restore(Graph graph, Matching matching) {
            graph.copyFrom(nears[latest]);
            matching.copyFrom(mates[latest]);
            latest = (latest + MOST_KEPT - 1) % MOST_KEPT;
            kept--;
        }
    }

    /**
     * Alternating paths from an exposed node. Behind the node itself such a path goes through
     * matched pairs, so the pairs that it used and its end tell all that matters for what may
     * follow: no two paths with the same ones need to be followed.
     */
    private static final class Paths {
        private final Graph graph;
        private final Matching matching;
        /** The bit of the pair that a node belongs to; 0 if it is exposed. */
        private final int[] pairBit = new int[MOST_NODES];
        /** For each set of used pairs: the ends of the paths that use these. */
        private final int[] followed = new int[1 << MOST_PAIRS];
        private final int[] wayNodes = new int[MOST_NODES];
        private int evenEnds = 0;
        private int oddEnds = 0;

        Paths(Graph graph, Matching matching) {
            this.graph = graph;
            this.matching = matching;
        }

        private void numberPairs() {
            int bit = 1;
            for (int node = 0; node < graph.nodes; node++) {
                int mate = matching.mate[node];
                if (mate == NONE) {
                    pairBit[node] = 0;
                } else if (mate > node) {
                    pairBit[node] = bit;
                    pairBit[mate] = bit;
                    bit <<= 1;
                }
            }
        }

        /** Finds the ends of all alternating paths from an exposed node. */
        void findEnds(int root) {
            numberPairs();
            Arrays.fill(followed, 0);
            followed[0] = 1 << root;
            evenEnds = 0;
            oddEnds = 0;
            // A path that goes on uses one pair more, so its set is a greater number.
            for (int used = 0; used < followed.length; used++) {
                evenEnds |= followed[used];
                for (int end = 0; end < graph.nodes; end++) {
                    if ((followed[used] >> end & 1) != 0) {
                        followFrom(end, used, root);
                    }
                }
            }
        }

        private void followFrom(int end, int used, int root) {
            for (int next = 0; next < graph.nodes; next++) {
                int bit = pairBit[next];
                if (next == root || !graph.joined(end, next) || (bit & used) != 0) {
                    continue;
                }
                oddEnds |= 1 << next;
                if (bit != 0) {
                    followed[used | bit] |= 1 << matching.mate[next];
                }
            }
        }

        /** Writes the way of an exposed node and returns its length; 0 if there is none. */
        int findWay(int root) {
            numberPairs();
            wayNodes[0] = root;
            int pairs = matching.size();
            for (int through = 0; through <= pairs; through++) {
                Arrays.fill(followed, 0);
                if (followWay(0, 0, through)) {
                    return 2 * through + 1;
                }
            }
            return 0;
        }

        /**
         * Tells whether the path up to a place can become an augmenting one through just so many
         * more pairs, and writes it then. Lower nodes come first, so the least one is found.
         */
        private boolean followWay(int place, int used, int through) {
            int end = wayNodes[place];
            if ((followed[used] >> end & 1) != 0) {
                return false;
            }
            followed[used] |= 1 << end;
            for (int next = 0; next < graph.nodes; next++) {
                if (graph.joined(end, next) && followWayTo(next, place, used, through)) {
                    return true;
                }
            }
            return false;
        }

        private boolean followWayTo(int next, int place, int used, int through) {
            int bit = pairBit[next];
            if (through == 0) {
                wayNodes[place + 1] = next;
                return bit == 0 && next != wayNodes[0];
            }
            if (bit == 0 || (bit & used) != 0) {
                return false;
            }
            wayNodes[place + 1] = next;
            wayNodes[place + 2] = matching.mate[next];
            return followWay(place + 2, used | bit, through - 1);
        }
    }

    /**
     * The maximum matchings of the graph and of its parts that have the nodes of a set alone.
     * What was found out of a set is kept until the graph changes.
     */
    private static final class Maxima {
        private final Graph graph;
        /** For each set: the size of its maximum matchings. */
        private final int[] size = new int[1 << MOST_NODES];
        /** For each set: the number of its maximum matchings; 0 if it was not found out yet. */
        private final int[] ways = new int[1 << MOST_NODES];
        private final Matching first = new Matching();
        private boolean firstIsKnown = false;
        private int changesSeen = NONE;

        Maxima(Graph graph) {
            this.graph = graph;
        }

        /** Finds out what all need of the present graph: itself, and itself without one node. */
        private void learn() {
            if (changesSeen == graph.changes) {
                return;
            }
            changesSeen = graph.changes;
            firstIsKnown = false;
            Arrays.fill(ways, 0);
            int all = graph.all();
            findOut(all, 0);
            for (int node = 0; node < graph.nodes; node++) {
                findOut(all & ~(1 << node), 0);
            }
        }

        /** Finds out of a set without nodes below one, which goes up from level to level. */
        private void findOut(int set, int from) {
            if (ways[set] != 0) {
                return;
            }
            int lowest = from;
            while (lowest < graph.nodes && (set >> lowest & 1) == 0) {
                lowest++;
            }
            if (lowest >= graph.nodes) {
                size[set] = 0;
                ways[set] = 1;
                return;
            }
            int rest = set & ~(1 << lowest);
            findOut(rest, lowest + 1);
            int greatest = size[rest];
            int number = ways[rest];
            int mates = rest & graph.near[lowest];
            for (int mate = lowest + 1; mate < graph.nodes; mate++) {
                if ((mates >> mate & 1) == 0) {
                    continue;
                }
                int left = rest & ~(1 << mate);
                findOut(left, lowest + 1);
                if (size[left] + 1 > greatest) {
                    greatest = size[left] + 1;
                    number = 0;
                }
                number += size[left] + 1 == greatest ? ways[left] : 0;
            }
            size[set] = greatest;
            ways[set] = number;
        }

        /** Returns the number of the graph. */
        int number() {
            learn();
            return size[graph.all()];
        }

        /** Returns how many maximum matchings there are. */
        int howMany() {
            learn();
            return ways[graph.all()];
        }

        /** Returns how many maximum matchings leave a node exposed. */
        int exposing(int node) {
            learn();
            int all = graph.all();
            int others = all & ~(1 << node);
            return size[others] == size[all] ? ways[others] : 0;
        }

        /** Returns the nodes that some maximum matching leaves exposed. */
        int exposable() {
            learn();
            int all = graph.all();
            int found = 0;
            for (int node = 0; node < graph.nodes; node++) {
                if (size[all & ~(1 << node)] == size[all]) {
                    found |= 1 << node;
                }
            }
            return found;
        }

        boolean isCritical() {
            learn();
            int all = graph.all();
            for (int node = 0; node < graph.nodes; node++) {
                if (2 * size[all & ~(1 << node)] != graph.nodes - 1) {
                    return false;
                }
            }
            return true;
        }

        /** Returns the number of the graph without two nodes. */
        int numberWithout(int one, int other) {
            learn();
            int others = graph.all() & ~(1 << one) & ~(1 << other);
            findOut(others, 0);
            return size[others];
        }

        /** Returns how many maximum matchings have the edge between two nodes. */
        int having(int one, int other) {
            if (!graph.joined(one, other)) {
                return 0;
            }
            learn();
            int all = graph.all();
            int others = all & ~(1 << one) & ~(1 << other);
            findOut(others, 0);
            return size[others] + 1 == size[all] ? ways[others] : 0;
        }

        /** Counts the edges that just so many maximum matchings have. */
        int edgesHadBy(int matchings) {
            int found = 0;
            for (int one = 0; one < graph.nodes; one++) {
                for (int other = one + 1; other < graph.nodes; other++) {
                    if (graph.joined(one, other) && having(one, other) == matchings) {
                        found++;
                    }
                }
            }
            return found;
        }

        /** Returns the first maximum matching. */
        Matching first() {
            learn();
            if (!firstIsKnown) {
                findFirst();
                firstIsKnown = true;
            }
            return first;
        }

        private void findFirst() {
            first.clear();
            int left = graph.all();
            for (int node = 0; node < graph.nodes; node++) {
                if ((left >> node & 1) != 0) {
                    int mate = leastMate(node, left);
                    left &= ~(1 << node);
                    if (mate != NONE) {
                        first.join(node, mate);
                        left &= ~(1 << mate);
                    }
                }
            }
        }

        /** Returns the least mate of the lowest node of a set in its maximum matchings. */
        private int leastMate(int lowest, int set) {
            findOut(set, lowest);
            int mates = graph.near[lowest] & set;
            for (int mate = lowest + 1; mate < graph.nodes; mate++) {
                if ((mates >> mate & 1) == 0) {
                    continue;
                }
                int others = set & ~(1 << lowest) & ~(1 << mate);
                findOut(others, lowest + 1);
                if (size[others] + 1 == size[set]) {
                    return mate;
                }
            }
            return NONE;
        }
    }
}
