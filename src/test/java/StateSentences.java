import java.math.BigInteger;
import java.util.List;

/** A test for each sentence of the promises 22 to 27. */
final class StateSentences {
    private static final Scene SCENE = new Scene(7, "ab!,bc,bd,ef,fg", "ab!,x");

    private StateSentences() {
    }

    static void test(Doc doc) {
        doc.promise(22);
        node(doc);
        refusedNodes(doc);
        doc.promise(23);
        edge(doc);
        propertiesOfPairs(doc);
        refusedEdges(doc);
        doc.promise(24);
        count(doc);
        refusedCounts(doc);
        doc.promise(25);
        difference(doc);
        refusedDifferences(doc);
        doc.promise(26);
        meanUse(doc);
        doc.promise(27);
        digest(doc);
        digestByHand(doc);
    }

    private static void property(MatchingGraph x, int what, int... want) {
        String edges = State.edges(x);
        for (int node = 0; node < want.length; node++) {
            Check.due("node(" + node + ", " + what + ") of " + edges, x.node(node, what), want[node]);
        }
    }

    private static void node(Doc doc) {
        doc.says("Returns a property of a node");
        int[] want = {3, 0, 1, 0, 0};
        for (int what = 0; what <= 4; what++) {
            int asked = what;
            SCENE.answers("node(1, " + asked + ")", want[asked], x -> x.node(1, asked));
        }

        doc.says("`node`: the node");
        for (int nodes = 2; nodes <= 12; nodes++) {
            MatchingGraph x = Check.made(nodes, "");
            Check.due("the first of " + nodes, x.node(0, 4), 0);
            Check.due("the last of " + nodes, x.node(nodes - 1, 4), nodes - 1);
        }

        doc.says("`what`: 0 for its degree, 1 for its mate, NONE if it is exposed; 2 for its part, 3 for the number");
        MatchingGraph x = Check.made(7, "ab!,bc,bd,ef");
        property(x, 0, 1, 3, 1, 1, 1, 1, 0);
        property(x, 1, 1, 0, -1, -1, -1, -1, -1);
        property(x, 2, 0, 1, 0, 0, 2, 2, 0);
        property(x, 3, 2, 0, 2, 2, 0, 0, 3);
        property(x, 4, 0, 0, 0, 0, 4, 4, 6);
        property(Check.made(2, "ab!"), 3, 0, 0);
        property(Check.made(2, ""), 3, 1, 1);
        property(Check.complete(11), 3, 945, 945, 945, 945, 945, 945, 945, 945, 945, 945, 945);
        property(Check.complete(12), 3, 0, 0, 0, 0, 0, 0, 0, 0, 0, 0, 0, 0);
        property(Check.complete(12), 0, 11, 11, 11, 11, 11, 11, 11, 11, 11, 11, 11, 11);
        property(Check.made(12, "bl,kl,ak"), 4, 0, 0, 2, 3, 4, 5, 6, 7, 8, 9, 0, 0);
        property(Check.made(12, "al!,bk!"), 1, 11, 10, -1, -1, -1, -1, -1, -1, -1, -1, 1, 0);

        doc.says("Returns the property");
        MatchingGraph y = Check.made(3, "ac!");
        Check.due("a mate", y.node(0, 1), 2);
        Check.due("an edge with it", y.edge(0, y.node(0, 1), 1), 1);
    }

    private static void refusedNodes(Doc doc) {
        doc.says("Throws `IndexOutOfBoundsException` if the node does not exist");
        for (int none : SCENE.noNodes()) {
            for (int what = 0; what <= 4; what++) {
                int asked = what;
                SCENE.refuses("node(" + none + ", " + asked + ")", Check.NO_INDEX, x -> x.node(none, asked));
            }
            SCENE.refuses("node(" + none + ", -1)", Check.NO_INDEX, x -> x.node(none, -1));
            SCENE.refuses("node(" + none + ", 5)", Check.NO_INDEX, x -> x.node(none, 5));
        }

        doc.says("Throws `IllegalArgumentException` if what is not 0 to 4");
        for (int what : Scene.beside(4)) {
            SCENE.refuses("node(0, " + what + ")", Check.NO_ARGUMENT, x -> x.node(0, what));
            SCENE.refuses("node(6, " + what + ")", Check.NO_ARGUMENT, x -> x.node(6, what));
        }
        SCENE.answers("node(6, 0)", 1, x -> x.node(6, 0));
        SCENE.answers("node(6, 4)", 4, x -> x.node(6, 4));
    }

    private static void edge(Doc doc) {
        doc.says("Returns a property of a pair of nodes");
        int[] want = {1, 1, 2};
        for (int what = 0; what <= 2; what++) {
            int asked = what;
            SCENE.answers("edge(0, 1, " + asked + ")", want[asked], x -> x.edge(0, 1, asked));
            SCENE.answers("edge(1, 0, " + asked + ")", want[asked], x -> x.edge(1, 0, asked));
        }

        doc.says("`one`: a node");
        for (int nodes = 2; nodes <= 12; nodes++) {
            MatchingGraph x = Check.made(nodes, "a" + (char) ('a' + nodes - 1));
            Check.due("the last of " + nodes, x.edge(nodes - 1, 0, 0), 1);
        }

        doc.says("`other`: a node");
        for (int nodes = 2; nodes <= 12; nodes++) {
            MatchingGraph x = Check.made(nodes, "a" + (char) ('a' + nodes - 1));
            Check.due("the last of " + nodes, x.edge(0, nodes - 1, 0), 1);
            Check.due("the same as the first one", x.edge(nodes - 1, nodes - 1, 0), 0);
        }
    }

    private static void pair(MatchingGraph x, int one, int other, int adjacent, int matched, int having) {
        String name = "edge(" + one + ", " + other + ") of " + State.edges(x) + ", property ";
        Check.due(name + 0, x.edge(one, other, 0), adjacent);
        Check.due(name + 1, x.edge(one, other, 1), matched);
        Check.due(name + 2, x.edge(one, other, 2), having);
        Check.due(name + 2 + " turned round", x.edge(other, one, 2), having);
    }

    private static void propertiesOfPairs(Doc doc) {
        doc.says("`what`: 0 for 1 if they are adjacent, else 0; 1 for 1 if there is an edge between them that is in the");
        MatchingGraph x = Check.made(5, "ab!,bc,cd,de");
        pair(x, 0, 1, 1, 1, 2);
        pair(x, 1, 2, 1, 0, 1);
        pair(x, 2, 3, 1, 0, 1);
        pair(x, 4, 3, 1, 0, 2);
        pair(x, 0, 2, 0, 0, 0);
        pair(x, 0, 4, 0, 0, 0);
        for (int node = 0; node < 5; node++) {
            pair(x, node, node, 0, 0, 0);
        }
        // Both are matched, but with others.
        pair(Check.made(4, "ab!,cd!,bc"), 1, 2, 1, 0, 0);
        pair(Check.made(4, "ab,bc!,cd"), 1, 2, 1, 1, 0);
        // Without them the others have as many, but there is no edge.
        pair(Check.made(4, "ab"), 2, 3, 0, 0, 0);
        pair(Check.made(2, ""), 0, 1, 0, 0, 0);
        pair(Check.made(2, ""), 1, 1, 0, 0, 0);
        pair(Check.complete(12), 3, 9, 1, 0, 945);
        pair(Check.complete(11), 10, 9, 1, 0, 945);

        doc.says("Returns the property");
        MatchingGraph y = Check.made(3, "ab");
        for (int step = 0; step < 3; step++) {
            Check.due("matched", y.edge(0, 1, 1), step == 1 ? 1 : 0);
            if (step < 2) {
                Check.answer(step == 0 ? () -> y.match(0, 1) : () -> y.unmatch(0));
            }
        }
        y.setEdge(0, 1, false);
        Check.due("not adjacent any more", y.edge(0, 1, 0), 0);
        Check.due("in no maximum matching any more", y.edge(0, 1, 2), 0);
    }

    private static void refusedEdges(Doc doc) {
        doc.says("Throws `IndexOutOfBoundsException` if a node does not exist");
        for (int none : SCENE.noNodes()) {
            for (int what = -1; what <= 3; what++) {
                int asked = what;
                SCENE.refuses("edge(" + none + ", 0, " + asked + ")", Check.NO_INDEX, x -> x.edge(none, 0, asked));
                SCENE.refuses("edge(0, " + none + ", " + asked + ")", Check.NO_INDEX, x -> x.edge(0, none, asked));
            }
            SCENE.refuses("the same, " + none, Check.NO_INDEX, x -> x.edge(none, none, 0));
        }

        doc.says("Throws `IllegalArgumentException` if what is not 0 to 2");
        for (int what : Scene.beside(2)) {
            SCENE.refuses("edge(0, 1, " + what + ")", Check.NO_ARGUMENT, x -> x.edge(0, 1, what));
            SCENE.refuses("edge(0, 6, " + what + ")", Check.NO_ARGUMENT, x -> x.edge(0, 6, what));
            SCENE.refuses("edge(3, 3, " + what + ")", Check.NO_ARGUMENT, x -> x.edge(3, 3, what));
        }
        SCENE.answers("edge(6, 6, 0)", 0, x -> x.edge(6, 6, 0));
        SCENE.answers("edge(6, 6, 2)", 0, x -> x.edge(6, 6, 2));
    }

    private static void counts(MatchingGraph x, int... want) {
        String edges = State.edges(x);
        for (int what = 0; what < want.length; what++) {
            Check.due("count(" + what + ") of " + edges, x.count(what), want[what]);
        }
    }

    private static void count(Doc doc) {
        doc.says("Returns a number");
        int[] want = {7, 5, 1, 2, 3, 6, 0, 0, 0, 2};
        for (int what = 0; what < want.length; what++) {
            int asked = what;
            SCENE.answers("count(" + asked + ")", want[asked], x -> x.count(asked));
        }

        doc.says("`what`: 0 for the number of nodes, 1 for the number of edges, 2 for the size of the matching");
        counts(new MatchingGraph(), 6, 0, 0, 0, 6, 1, 0, 0, 0, 6, 0);
        counts(Check.made(2, ""), 2, 0, 0, 0, 2, 1, 0, 0, 0, 2, 0);
        counts(Check.made(2, "ab"), 2, 1, 0, 1, 0, 1, 1, 0, 0, 1, 1);
        counts(Check.made(2, "ab!"), 2, 1, 1, 1, 0, 1, 1, 0, 0, 1, 1);
        counts(Check.made(3, "ab,bc,ac"), 3, 3, 0, 1, 1, 3, 0, 0, 1, 1, 1);
        counts(Check.made(4, "ab,bc!,cd"), 4, 3, 1, 2, 0, 1, 2, 1, 0, 1, 1);
        counts(Check.made(7, "ab!,bc,cd,ef,fg"), 7, 5, 1, 3, 1, 2, 2, 1, 0, 2, 1);
        counts(Check.made(5, "ab,bc,ac,cd!"), 5, 4, 1, 2, 1, 1, 2, 2, 0, 2, 1);
        counts(Check.complete(11), 11, 55, 0, 5, 1, 10395, 0, 0, 1, 1, 4);
        counts(Check.complete(12), 12, 66, 0, 6, 0, 10395, 0, 0, 0, 1, 4);
        counts(Check.made(12, ""), 12, 0, 0, 0, 12, 1, 0, 0, 0, 12, 0);
        counts(Check.made(12, "ab!,cd!,ef!,gh!,ij!,kl!"), 12, 6, 6, 6, 0, 1, 6, 0, 0, 6, 1);

        doc.says("Returns the number.");
        MatchingGraph x = new MatchingGraph();
        for (int edits = 1; edits <= 6; edits++) {
            x.setEdge(0, 5, edits % 2 == 1);
            Check.due("edges", x.count(1), edits % 2);
            Check.due("number of the graph", x.count(3), edits % 2);
            Check.due("edits that are kept", x.count(10), Math.min(edits, 4));
        }
    }

    private static void refusedCounts(Doc doc) {
        doc.says("Throws `IllegalArgumentException` if what is not 0 to 10");
        for (int what : Scene.beside(10)) {
            SCENE.refuses("count(" + what + ")", Check.NO_ARGUMENT, x -> x.count(what));
            new Scene(2, "").refuses("count(" + what + ")", Check.NO_ARGUMENT, x -> x.count(what));
        }
        SCENE.answers("count(0)", 7, x -> x.count(0));
        Check.due("count(10)", Check.answer(() -> new MatchingGraph().count(10)), 0);
    }

    private static void differs(String what, MatchingGraph x, int cycles, int paths) {
        Check.due(what + ", cycles", x.difference(0), cycles);
        Check.due(what + ", paths", x.difference(1), paths);
    }

    private static void difference(Doc doc) {
        doc.says("of the edges that are in just one of both, the components");
        differs("the same", Check.made(6, "ab!,bc,cd!,ef!"), 0, 0);
        differs("an edge in the first one alone", Check.made(2, "ab"), 0, 1);
        differs("an edge in each", Check.made(3, "ab,bc!"), 0, 1);
        differs("an edge of it between two of the first one", Check.made(4, "ab,bc!,cd"), 0, 1);
        differs("a cycle of 4", Check.made(4, "ab,bc!,cd,ad!"), 1, 0);
        differs("a cycle of 6", Check.made(6, "ab,bc!,cd,de!,ef,af!"), 1, 0);
        differs("a cycle of 12", Check.made(12, "ab,bc!,cd,de!,ef,fg!,gh,hi!,ij,jk!,kl,al!"), 1, 0);
        differs("a cycle with nodes beside it", Check.made(12, "bd,dh!,hk,bk!"), 1, 0);
        differs("a path with nodes beside it", Check.made(12, "bd,dh!,hk"), 0, 1);
        differs("edges of the graph that are in none", Check.made(4, "ab!,bc,cd!,ad"), 0, 0);

        doc.says("`what`: 0 for the number of these cycles, 1 for the number of these paths with at least one edge");
        differs("no edges", Check.made(12, ""), 0, 0);
        differs("nodes without an edge are no paths", Check.made(12, "ab"), 0, 1);
        differs("6 paths", Check.made(12, "ab,cd,ef,gh,ij,kl"), 0, 6);
        differs("5 paths", Check.made(12, "ab!,cd,ef,gh,ij,kl"), 0, 5);
        differs("2 cycles", Check.made(8, "ab,bc!,cd,ad!,ef,fg!,gh,eh!"), 2, 0);
        differs("3 cycles", Check.made(12, "ab,bc!,cd,ad!,ef,fg!,gh,eh!,ij,jk!,kl,il!"), 3, 0);
        differs("one cycle and 2 paths", Check.made(12, "ab,bc!,cd,ad!,ef,fg!,hi,ij,kl!"), 1, 2);

        doc.says("Returns the number");
        SCENE.answers("difference(0)", 0, x -> x.difference(0));
        SCENE.answers("difference(1)", 1, x -> x.difference(1));
        MatchingGraph x = Check.made(4, "ab,bc!,cd,ad!");
        x.takeFirst();
        differs("behind takeFirst", x, 0, 0);
        x.undo();
        differs("behind undo", x, 1, 0);
        x.unmatch(0);
        differs("without one edge", x, 0, 1);
    }

    private static void refusedDifferences(Doc doc) {
        doc.says("Throws `IllegalArgumentException` if what is not 0 or 1");
        for (int what : Scene.beside(1)) {
            SCENE.refuses("difference(" + what + ")", Check.NO_ARGUMENT, x -> x.difference(what));
            new Scene(2, "").refuses("difference(" + what + ")", Check.NO_ARGUMENT, x -> x.difference(what));
        }
    }

    private static void meanUse(Doc doc) {
        doc.says("Returns how often edges are in maximum matchings");
        SCENE.answers("meanUse", 12.0 / 30, MatchingGraph::meanUse);
        Check.due("an edge that all have", Check.made(2, "ab").meanUse(), 1.0);
        Check.due("a path of 4", Check.made(4, "ab,bc,cd").meanUse(), 2.0 / 3);
        Check.due("the matching does not matter", Check.made(4, "ab,bc!,cd").meanUse(), 2.0 / 3);

        doc.says("Returns the mean, over all edges, of the number of maximum matchings that have the edge");
        Check.due("no edges", Check.made(12, "").meanUse(), 0.0);
        Check.due("no edges of 2 nodes", Check.made(2, "").meanUse(), 0.0);
        Check.due("one edge", Check.made(12, "kl").meanUse(), 1.0);
        Check.due("two edges", Check.made(3, "ab,bc").meanUse(), 2.0 / 4);
        Check.due("a triangle", Check.made(3, "ab,bc,ac").meanUse(), 3.0 / 9);
        Check.due("a cycle of 7", Check.made(7, "ab,bc,cd,de,ef,fg,ag").meanUse(), 21.0 / 49);
        Check.due("all pairs of 11", Check.complete(11).meanUse(), 51975.0 / 571725);
        Check.due("all pairs of 12", Check.complete(12).meanUse(), 62370.0 / 686070);
        // Here 6.0 / 5 / 3 and the mean of what each edge has would be rounded to less.
        Check.due("divided once", Check.made(5, "ab,ac,ae,bd,be").meanUse(), 6.0 / 15);
        MatchingGraph x = Check.made(2, "ab");
        x.setEdge(0, 1, false);
        Check.due("no edges any more", x.meanUse(), 0.0);
        x.undo();
        Check.due("an edge again", x.meanUse(), 1.0);
    }

    private static void digest(Doc doc) {
        doc.says("Computes a hash of the whole state");
        SCENE.answers("digest", "a hash", x -> x.digest() == x.digest() ? "a hash" : "two hashes");
        long before = Check.made(5, "ab!,bc,cd").digest();
        Check.due("the same calls", Check.made(5, "ab!,bc,cd").digest(), before);
        differ("nodes", before, Check.made(6, "ab!,bc,cd").digest());
        differ("edges", before, Check.made(5, "ab!,bc,ce").digest());
        differ("the matching", before, Check.made(5, "ab,bc!,cd").digest());
        MatchingGraph kept = Check.made(5, "ab!,bc,cd");
        kept.setEdge(0, 1, true);
        differ("the edits that are kept", before, kept.digest());
        MatchingGraph typed = Check.made(5, "ab!,bc,cd");
        typed.append('a');
        differ("the length of the buffer", before, typed.digest());
        long one = typed.digest();
        typed.clearInput();
        typed.append('b');
        differ("the characters", one, typed.digest());

        doc.says("The hash starts as 2003; each value x replaces the hash by 31 * hash + x, in long arithmetic with overflow");
        String[] graphs = {"", "ab", "ab!,bc,cd", "ab!,bc,cd!,de", "ab,bc!,cd,de!,ce,df,fg!,gh"};
        int[] nodes = {2, 2, 12, 6, 8};
        for (int graph = 0; graph < graphs.length; graph++) {
            MatchingGraph x = Check.made(nodes[graph], graphs[graph]);
            Check.type(x, "ab,~ ");
            Check.due("digest of " + graphs[graph], x.digest(), overflowed(State.values(x, "ab,~ ")));
        }

        doc.says("The values are, in this order: count for 0 to 10; for each node its properties 0 to 4");
        for (int graph = 0; graph < graphs.length; graph++) {
            for (String text : new String[] {"", "~", "ab!", " !".repeat(30)}) {
                MatchingGraph x = Check.made(nodes[graph], graphs[graph]);
                Check.type(x, text);
                Check.due("digest of " + graphs[graph] + " and '" + text + "'", x.digest(), wrapped(State.values(x, text)));
            }
        }
    }

    private static void differ(String what, long one, long other) {
        Check.due(what + " count", one != other, true);
    }

    /** The hash without bounds, of which the lowest 64 bits are left. */
    private static long overflowed(List<Integer> values) {
        BigInteger hash = BigInteger.valueOf(2003);
        for (int value : values) {
            hash = hash.multiply(BigInteger.valueOf(31)).add(BigInteger.valueOf(value));
        }
        Check.due("the hash goes over the bounds of a long", hash.bitLength() > 64, true);
        return hash.longValue();
    }

    private static long wrapped(List<Integer> values) {
        long hash = 2003;
        for (int value : values) {
            hash = 31 * hash + value;
        }
        return hash;
    }

    private static void digestByHand(Doc doc) {
        doc.says("Returns the hash");
        MatchingGraph x = Check.made(2, "");
        Check.type(x, "a~");
        Check.due("2 nodes without an edge", x.digest(), wrapped(List.of(
                2, 0, 0, 0, 2, 1, 0, 0, 0, 2, 0,
                0, -1, 0, 1, 0, -1, 1, 0, 0,
                0, -1, 0, 1, 1, -1, 2, 0, 0,
                0, 0, 0, 0, -1, 0, 0, 2, 97, 126)));
        Check.due("a path of 3", Check.made(3, "ab,bc!").digest(), wrapped(List.of(
                3, 2, 1, 1, 1, 2, 0, 0, 0, 1, 1,
                1, -1, 0, 1, 0, 1, 5, 2, 0,
                2, 2, 1, 0, 0, 0, 0, 0,
                1, 1, 0, 1, 0, -1, 0, 0,
                1, 0, 1, 0, 0, 0, 1, 1, 1,
                0, -1, 0, 1, 0)));
    }
}
