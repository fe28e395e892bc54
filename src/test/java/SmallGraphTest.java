import java.util.Arrays;

/** All graphs with few nodes, with all their matchings, compared with the plain telling. */
public final class SmallGraphTest {
    private static final int LEAST_NODES = 2;

    private final int nodes;
    private final int edges;
    private final String name;
    private int matchings = 0;

    private SmallGraphTest(int nodes, int edges) {
        this.nodes = nodes;
        this.edges = edges;
        name = nodes + " nodes, edges " + Integer.toBinaryString(edges) + ", matching ";
    }

    public static void main(String[] args) {
        int most = args.length > 0 ? Integer.parseInt(args[0]) : 5;
        int matchings = 0;
        for (int nodes = LEAST_NODES; nodes <= most; nodes++) {
            for (int edges = 0; edges < 1 << nodes * (nodes - 1) / 2; edges++) {
                matchings += new SmallGraphTest(nodes, edges).lookAtAll();
            }
        }
        Check.due("there were matchings", matchings >= 3, true);
        Check.end("SmallGraphTest");
    }

    private int lookAtAll() {
        int[] mates = new int[nodes];
        Arrays.fill(mates, MatchingGraph.NONE);
        matchFrom(0, mates);
        return matchings;
    }

    /** Looks at all matchings that agree with some mates below a node. */
    private void matchFrom(int node, int[] mates) {
        if (node == nodes) {
            matchings++;
            look(mates);
            return;
        }
        matchFrom(node + 1, mates);
        for (int other = 0; other < node; other++) {
            if (isEdge(other, node) && mates[other] == MatchingGraph.NONE) {
                mates[node] = other;
                mates[other] = node;
                matchFrom(node + 1, mates);
                mates[node] = MatchingGraph.NONE;
                mates[other] = MatchingGraph.NONE;
            }
        }
    }

    private boolean isEdge(int one, int other) {
        return (edges >> other * (other - 1) / 2 + one & 1) != 0;
    }

    private void look(int[] mates) {
        MatchingGraph x = new MatchingGraph();
        Reference y = new Reference();
        both(mates, "begin", () -> x.begin(nodes), () -> y.begin(nodes));
        for (int high = 1; high < nodes; high++) {
            for (int low = 0; low < high; low++) {
                int one = low;
                int other = high;
                if (isEdge(one, other)) {
                    both(mates, "setEdge", () -> x.setEdge(one, other, true), () -> y.setEdge(one, other, true));
                }
                if (mates[one] == other) {
                    both(mates, "match", () -> x.match(one, other), () -> y.match(one, other));
                }
            }
        }
        both(mates, "digest", x::digest, y::digest);
        both(mates, "meanUse", x::meanUse, y::meanUse);
        lookAtWays(mates, x, y);
        lookAtChanges(mates, x, y);
        extend(mates, x, y);
    }

    private void lookAtWays(int[] mates, MatchingGraph x, Reference y) {
        for (int node = 0; node < nodes; node++) {
            for (int place = -1; place <= nodes; place++) {
                int asked = node;
                int at = place;
                both(mates, "wayNode " + asked + " " + at, () -> x.wayNode(asked, at), () -> y.wayNode(asked, at));
            }
        }
    }

    private void lookAtChanges(int[] mates, MatchingGraph x, Reference y) {
        for (int first = 0; first < nodes; first++) {
            for (int second = first; second < nodes; second++) {
                int one = first;
                int other = second;
                both(mates, "ifChanged " + one + " " + other, () -> x.ifChanged(one, other), () -> y.ifChanged(one, other));
            }
        }
        for (int set = -1; set <= 1 << nodes; set++) {
            int without = set;
            both(mates, "components " + set, () -> x.components(without, true), () -> y.components(without, true));
        }
    }

    private void extend(int[] mates, MatchingGraph x, Reference y) {
        for (int node = 0; node < nodes; node++) {
            int from = node;
            both(mates, "augment " + from, () -> x.augment(from), () -> y.augment(from));
            both(mates, "digest behind augment " + from, x::digest, y::digest);
            if (mates[from] == MatchingGraph.NONE) {
                both(mates, "undo", x::undo, y::undo);
            }
        }
        both(mates, "maximize", x::maximize, y::maximize);
        both(mates, "digest behind maximize", x::digest, y::digest);
        both(mates, "undo", x::undo, y::undo);
        both(mates, "takeFirst", x::takeFirst, y::takeFirst);
        both(mates, "digest behind takeFirst", x::digest, y::digest);
        both(mates, "undo", x::undo, y::undo);
        both(mates, "digest at the end", x::digest, y::digest);
    }

    private void both(int[] mates, String what, Check.Call mine, Check.Call theirs) {
        Object got = Check.answer(mine);
        Object want = Check.answer(theirs);
        if (!got.equals(want)) {
            Check.due(name + Arrays.toString(mates) + ", " + what, got, want);
        }
    }
}
