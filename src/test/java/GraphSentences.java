/** A test for each sentence of the promises 1 to 3. */
final class GraphSentences {
    private GraphSentences() {
    }

    static void test(Doc doc) {
        doc.promise(1);
        newObject(doc);
        doc.promise(2);
        begin(doc);
        refusedBegins(doc);
        doc.promise(3);
        setEdge(doc);
        argumentsOfSetEdge(doc);
        refusedEdges(doc);
    }

    private static void newObject(Doc doc) {
        doc.says("Creates a graph with 6 nodes and without edges; the buffer is empty");
        MatchingGraph x = new MatchingGraph();
        Check.due("nodes", x.count(0), 6);
        Check.due("the last node", x.node(5, 0), 0);
        Check.due("no node behind it", Check.answer(() -> x.node(6, 0)), Check.NO_INDEX);
        Check.due("edges", State.edges(x), "6:");
        Check.due("number of edges", x.count(1), 0);
        Check.due("matching", x.count(2), 0);
        Check.due("edits", x.count(10), 0);
        Check.due("no edit", Check.answer(x::undo), Check.NO_STATE);
        Check.due("no error", x.firstError(), 0);
        Check.due("nothing to load", Check.answer(x::load), Check.NO_ARGUMENT);
        Check.due("length of the buffer", x.clearInput(), 0);
        x.setEdge(0, 1, true);
        x.append('a');
        Check.due("another object is new, too", State.of(new MatchingGraph()), State.of(Check.made(6, "")));
    }

    private static void begin(Doc doc) {
        doc.says("Begins anew with a graph without edges and an empty matching; no edits can be undone");
        for (int nodes = 2; nodes <= 12; nodes++) {
            MatchingGraph x = Check.made(12, "al!,bk!,cj!,di!,eh!,fg!,ab,kl");
            x.setEdge(0, 2, true);
            x.begin(nodes);
            Check.due("no edges", State.edges(x), nodes + ":");
            Check.due("no edges of the kind of a new object", x.digest(), Check.made(nodes, "").digest());
            Check.due("the matching is empty", x.count(2), 0);
            Check.due("no edit is kept", x.count(10), 0);
            Check.due("no edit can be undone", Check.answer(x::undo), Check.NO_STATE);
            x.begin(12);
            Check.due("no edge comes back with its nodes", x.digest(), Check.made(12, "").digest());
        }
        MatchingGraph same = Check.made(6, "ab!,bc,cd");
        same.begin(6);
        Check.due("the same number of nodes", same.digest(), new MatchingGraph().digest());
        same.setEdge(0, 5, true);
        Check.due("the first edit behind it", same.undo(), 0);
        Check.due("undone", State.edges(same), "6:");

        doc.says("The buffer stays");
        MatchingGraph x = new MatchingGraph();
        Check.type(x, "kl!,ab");
        x.begin(12);
        Check.due("it is read with the new nodes", x.firstError(), 6);
        x.begin(2);
        Check.due("it is read with fewer nodes", x.firstError(), 0);
        x.begin(12);
        Check.due("it can be loaded", x.load(), 2);
        MatchingGraph full = new MatchingGraph();
        Check.type(full, "x".repeat(60));
        full.begin(6);
        Check.due("a full one stays full", Check.answer(() -> full.append('x')), Check.NO_STATE);
        Check.due("its length", full.clearInput(), 60);
    }

    private static void refusedBegins(Doc doc) {
        doc.says("`nodes`: 2 to 12");
        for (int nodes = 2; nodes <= 12; nodes++) {
            MatchingGraph x = new MatchingGraph();
            int asked = nodes;
            Check.due("begin(" + nodes + ")", Check.answer(() -> x.begin(asked)), 6);
            Check.due("nodes", x.count(0), nodes);
            Check.due("the last one is a node", x.setEdge(0, nodes - 1, true), 0);
        }

        doc.says("Returns the previous number of nodes");
        MatchingGraph x = new MatchingGraph();
        Check.due("behind a new object", x.begin(12), 6);
        Check.due("behind 12", x.begin(2), 12);
        Check.due("behind 2", x.begin(2), 2);
        Check.due("behind 2 again", x.begin(3), 2);
        Check.due("refused", Check.answer(() -> x.begin(13)), Check.NO_ARGUMENT);
        Check.due("behind 3 and a refused one", x.begin(11), 3);
        Check.due("behind 11", x.begin(6), 11);

        doc.says("Throws `IllegalArgumentException` if nodes is out of range");
        int[] wrong = {1, 13, 0, -1, 14, -2, -12, 31, 32, 34, 64, 258, 65538, Integer.MIN_VALUE, Integer.MIN_VALUE + 2,
            Integer.MAX_VALUE};
        for (int nodes : wrong) {
            new Scene(5, "ab!,bc,cd,de,ae", "ab,x").refuses("begin(" + nodes + ")", Check.NO_ARGUMENT, y -> y.begin(nodes));
        }
    }

    private static void setEdge(Doc doc) {
        doc.says("Adds an edge, or removes it");
        Scene scene = new Scene(6, "ab!,bc,cd,de,af");
        scene.edits("setEdge(0, 2, true)", 0, " ab! ac af bc cd de", x -> x.setEdge(0, 2, true));
        scene.edits("setEdge(5, 4, true)", 0, " ab! af bc cd de ef", x -> x.setEdge(5, 4, true));
        scene.edits("setEdge(2, 1, false)", 1, " ab! af cd de", x -> x.setEdge(2, 1, false));
        scene.edits("setEdge(0, 5, false)", 1, " ab! bc cd de", x -> x.setEdge(0, 5, false));
        scene.edits("setEdge(0, 1, false)", 1, " af bc cd de", x -> x.setEdge(0, 1, false));

        doc.says("This is an edit");
        scene.edits("an edge that is there", 1, " ab! af bc cd de", x -> x.setEdge(1, 0, true));
        scene.edits("an edge that is not there", 0, " ab! af bc cd de", x -> x.setEdge(4, 5, false));
        MatchingGraph x = new MatchingGraph();
        for (int times = 1; times <= 6; times++) {
            x.setEdge(0, 1, false);
            Check.due("edits behind " + times, x.count(10), Math.min(times, 4));
        }
    }

    private static void argumentsOfSetEdge(Doc doc) {
        doc.says("`one`: a node");
        for (int nodes = 2; nodes <= 12; nodes++) {
            for (int one = 1; one < nodes; one++) {
                joins(nodes, one, 0);
            }
            joins(nodes, 0, nodes - 1);
        }

        doc.says("`other`: another node");
        for (int nodes = 2; nodes <= 12; nodes++) {
            for (int other = 1; other < nodes; other++) {
                joins(nodes, 0, other);
                joins(nodes, other, other - 1);
            }
        }

        doc.says("`on`: true if there is to be an edge, false if not");
        MatchingGraph x = Check.made(3, "");
        for (boolean on : new boolean[] {false, true, true, false, false, true}) {
            x.setEdge(2, 0, on);
            Check.due("setEdge(2, 0, " + on + ")", x.edge(0, 2, 0), on ? 1 : 0);
        }

        doc.says("Returns 1 if there was the edge before, else 0");
        MatchingGraph y = Check.made(3, "ab!,bc");
        Check.due("none, true", y.setEdge(0, 2, true), 0);
        Check.due("there, true", y.setEdge(0, 2, true), 1);
        Check.due("there, turned round", y.setEdge(2, 0, true), 1);
        Check.due("there, false", y.setEdge(2, 0, false), 1);
        Check.due("none, false", y.setEdge(0, 2, false), 0);
        Check.due("matched, true", y.setEdge(0, 1, true), 1);
        Check.due("matched, false", y.setEdge(0, 1, false), 1);
        Check.due("gone, false", y.setEdge(0, 1, false), 0);
    }

    private static void joins(int nodes, int one, int other) {
        MatchingGraph x = Check.made(nodes, "");
        Check.due("setEdge(" + one + ", " + other + ")", x.setEdge(one, other, true), 0);
        Check.due("adjacent", x.edge(other, one, 0), 1);
        Check.due("the only edge", x.count(1), 1);
    }

    private static void refusedEdges(Doc doc) {
        doc.says("Throws `IndexOutOfBoundsException` if a node does not exist");
        for (int nodes : new int[] {2, 5, 12}) {
            Scene scene = new Scene(nodes, nodes == 2 ? "ab!" : "ab!,bc,cd,de,ae", "ab");
            for (int none : scene.noNodes()) {
                boolean on = none % 2 == 0;
                scene.refuses("setEdge(" + none + ", 0)", Check.NO_INDEX, x -> x.setEdge(none, 0, on));
                scene.refuses("setEdge(0, " + none + ")", Check.NO_INDEX, x -> x.setEdge(0, none, !on));
                scene.refuses("setEdge of " + none + " twice", Check.NO_INDEX, x -> x.setEdge(none, none, on));
            }
            scene.refuses("both too large", Check.NO_INDEX, x -> x.setEdge(nodes, nodes + 1, true));
            scene.refuses("too small and too large", Check.NO_INDEX, x -> x.setEdge(-1, nodes, false));
            int last = nodes - 1;
            Check.due("the last node exists", Check.answer(() -> Check.made(nodes, "").setEdge(last, 0, true)), 0);
        }

        doc.says("Throws `IllegalArgumentException` if both nodes are the same");
        for (int nodes : new int[] {2, 5, 12}) {
            Scene scene = new Scene(nodes, nodes == 2 ? "ab!" : "ab!,bc,cd,de,ae", "ab");
            for (int node = 0; node < nodes; node++) {
                int same = node;
                scene.refuses("setEdge of " + same + " twice", Check.NO_ARGUMENT, x -> x.setEdge(same, same, true));
                scene.refuses("setEdge of " + same + " twice", Check.NO_ARGUMENT, x -> x.setEdge(same, same, false));
            }
        }
    }
}
