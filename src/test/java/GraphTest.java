/** Promises 1 to 3: a new object, begin, setEdge. */
public final class GraphTest {
    public static void main(String[] args) {
        newObject();
        begin();
        setEdge();
        wrongEdges();
        Check.end("GraphTest");
    }

    private static void newObject() {
        MatchingGraph x = new MatchingGraph();
        Check.due("a new object", State.edges(x), "6:");
        Check.due("nodes of a new object", x.count(0), 6);
        Check.due("edges of a new object", x.count(1), 0);
        Check.due("matching of a new object", x.count(2), 0);
        Check.due("edits of a new object", x.count(10), 0);
        Check.due("buffer of a new object", x.clearInput(), 0);
    }

    private static void begin() {
        MatchingGraph x = Check.made(7, "ab!,bc,ag");
        Check.type(x, "fg,xy");
        Check.due("begin(12)", x.begin(12), 7);
        Check.due("behind begin", State.edges(x), "12:");
        Check.due("matching behind begin", x.count(2), 0);
        Check.due("edits behind begin", x.count(10), 0);
        Check.due("undo behind begin", Check.answer(x::undo), "throws.IllegalStateException");
        Check.due("error behind begin", x.firstError(), 3);
        Check.due("begin(2)", x.begin(2), 12);
        Check.due("error with 2 nodes", x.firstError(), 0);
        Check.due("the buffer stays", x.clearInput(), 5);
        Check.due("begin(2) again", x.begin(2), 2);
        Check.due("begin(6)", x.begin(6), 2);
        for (int nodes : new int[] {1, 0, -1, 13, Integer.MIN_VALUE, Integer.MAX_VALUE}) {
            Check.refused(x, "begin(" + nodes + ")", IllegalArgumentException.class, () -> x.begin(nodes));
        }
        MatchingGraph y = Check.made(4, "ab!,cd");
        Check.refused(y, "begin(1)", IllegalArgumentException.class, () -> y.begin(1));
        y.begin(4);
        Check.due("begin with the same number", State.edges(y), "4:");
        y.begin(3);
        y.begin(4);
        Check.due("nodes that come back are exposed", y.node(3, 1), -1);
    }

    private static void setEdge() {
        MatchingGraph x = Check.made(12, "");
        Check.due("a new edge", x.setEdge(0, 11, true), 0);
        Check.due("an edge again", x.setEdge(0, 11, true), 1);
        Check.due("an edge the other way round", x.setEdge(11, 0, true), 1);
        Check.due("the edge", State.edges(x), "12: al");
        Check.due("edits", x.count(10), 3);
        Check.due("an edge away", x.setEdge(11, 0, false), 1);
        Check.due("an edge away again", x.setEdge(0, 11, false), 0);
        Check.due("no edge", State.edges(x), "12:");
        Check.due("at most 4 edits", x.count(10), 4);
        MatchingGraph y = Check.made(4, "ab!,cd!,bc");
        y.setEdge(1, 0, false);
        Check.due("an edge of the matching away", State.edges(y), "4: bc cd!");
        Check.due("its node is exposed", y.node(0, 1), -1);
        Check.due("its other node is exposed", y.node(1, 1), -1);
        y.setEdge(0, 1, true);
        Check.due("it comes back unmatched", State.edges(y), "4: ab bc cd!");
        y.setEdge(1, 2, false);
        Check.due("another edge away", State.edges(y), "4: ab cd!");
        y.setEdge(0, 2, false);
        Check.due("no edge away", State.edges(y), "4: ab cd!");
        y.setEdge(2, 3, true);
        Check.due("an edge of the matching again", State.edges(y), "4: ab cd!");
    }

    private static void wrongEdges() {
        MatchingGraph x = Check.made(5, "ab!,de");
        for (boolean on : new boolean[] {true, false}) {
            Check.refused(x, "no node -1", IndexOutOfBoundsException.class, () -> x.setEdge(-1, 2, on));
            Check.refused(x, "no node 5", IndexOutOfBoundsException.class, () -> x.setEdge(2, 5, on));
            Check.refused(x, "no node 12", IndexOutOfBoundsException.class, () -> x.setEdge(12, 2, on));
            Check.refused(x, "no nodes", IndexOutOfBoundsException.class, () -> x.setEdge(5, 5, on));
            Check.refused(x, "no nodes", IndexOutOfBoundsException.class,
                    () -> x.setEdge(Integer.MIN_VALUE, Integer.MAX_VALUE, on));
            Check.refused(x, "the same", IllegalArgumentException.class, () -> x.setEdge(4, 4, on));
        }
    }
}
