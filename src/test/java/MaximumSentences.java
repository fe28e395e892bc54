/** A test for each sentence of the promises 18 to 21. */
final class MaximumSentences {
    private static final Scene SCENE = new Scene(7, "ab,bc!,cd,ef!,fg", "ab!,x");

    private MaximumSentences() {
    }

    static void test(Doc doc) {
        doc.promise(18);
        firstMate(doc);
        doc.promise(19);
        proof(doc);
        doc.promise(20);
        components(doc);
        refusedSets(doc);
        doc.promise(21);
        ifChanged(doc);
        changedEdges(doc);
        refusedChanges(doc);
    }

    private static void firstMate(Doc doc) {
        doc.says("Returns the mate of a node in the first maximum matching");
        int[] want = {1, 0, 3, 2, 5, 4, -1};
        for (int node = 0; node < want.length; node++) {
            int asked = node;
            SCENE.answers("firstMate(" + asked + ")", want[asked], x -> x.firstMate(asked));
        }

        doc.says("`node`: the node");
        MatchingGraph pairs = Check.made(12, "al,bk,cj,di,eh,fg");
        for (int node = 0; node < 12; node++) {
            Check.due("firstMate(" + node + ")", pairs.firstMate(node), 11 - node);
        }

        doc.says("Returns its mate; NONE if it is exposed");
        MatchingGraph x = Check.made(3, "ac,bc!");
        Check.due("the first one", x.firstMate(0), 2);
        Check.due("its mate", x.firstMate(2), 0);
        Check.due("exposed in it, though matched now", x.firstMate(1), -1);
        x.setEdge(0, 2, false);
        Check.due("exposed behind a change", x.firstMate(0), -1);
        Check.due("matched behind a change", x.firstMate(1), 2);
        x.undo();
        Check.due("as before behind undo", x.firstMate(0), 2);
        Check.due("no edges", Check.made(12, "").firstMate(11), -1);
        Check.due("the odd one out", Check.complete(11).firstMate(10), -1);
        Check.due("none out", Check.complete(12).firstMate(11), 10);

        doc.says("Throws `IndexOutOfBoundsException` if the node does not exist");
        for (int none : SCENE.noNodes()) {
            SCENE.refuses("firstMate(" + none + ")", Check.NO_INDEX, y -> y.firstMate(none));
        }
        MatchingGraph gone = Check.made(12, "kl");
        gone.begin(11);
        Check.due("a node that is gone", Check.answer(() -> gone.firstMate(11)), Check.NO_INDEX);
        Check.due("a node whose mate is gone", gone.firstMate(10), -1);
    }

    private static void proof(Doc doc) {
        doc.says("Returns the least proof");
        new Scene(7, "ag,bg!,cg,de!,ef", "x").answers("proof", Check.set("g"), MatchingGraph::proof);
        Check.due("no edges", Check.made(12, "").proof(), 0);
        Check.due("2 nodes", Check.made(2, "ab").proof(), 0);
        Check.due("a path of 3", Check.made(3, "ab,bc").proof(), 0);
        Check.due("a star with 2 leaves", Check.made(4, "ab,bc").proof(), 0);
        Check.due("a star with 3 leaves", Check.made(4, "ab,bc,bd").proof(), Check.set("b"));
        Check.due("all pairs", Check.complete(12).proof(), 0);
        Check.due("h, not ab", Check.made(8, "ab,ac,ad,af,bc,bf,bh,eh,gh").proof(), Check.set("h"));

        doc.says("Returns its nodes, as a bit mask");
        Check.due("node 0", Check.made(12, "ab,ac,ad,ae,af,ag,ah,ai,aj,ak,al").proof(), 1);
        Check.due("node 11", Check.made(12, "al,bl,cl,dl,el,fl,gl,hl,il,jl,kl").proof(), 2048);
        MatchingGraph x = Check.made(12, "");
        for (int one = 7; one < 12; one++) {
            for (int other = 0; other < 7; other++) {
                x.setEdge(one, other, true);
            }
        }
        Check.due("nodes 7 to 11", x.proof(), 3968);
        Check.due("nodes 0 and 7", Check.made(8, "ab,ac,ad,eh,fh,gh").proof(), 129);
    }

    private static void components(Doc doc) {
        Scene scene = new Scene(7, "ab!,bc,cd,de,fg", "ab,x");
        doc.says("Counts the components of the graph without some nodes");
        scene.answers("without none", 2, x -> x.components(0, false));
        scene.answers("without c", 3, x -> x.components(Check.set("c"), false));
        scene.answers("without a", 2, x -> x.components(Check.set("a"), false));
        scene.answers("without f and g", 1, x -> x.components(Check.set("fg"), false));
        scene.answers("without b and d", 4, x -> x.components(Check.set("bd"), false));

        doc.says("`without`: the nodes, as a bit mask");
        for (int nodes = 2; nodes <= 12; nodes++) {
            int all = (1 << nodes) - 1;
            MatchingGraph empty = Check.made(nodes, "");
            Check.due("without none of " + nodes, empty.components(0, false), nodes);
            Check.due("without the first", empty.components(1, false), nodes - 1);
            Check.due("without the last", empty.components(1 << nodes - 1, false), nodes - 1);
            Check.due("without all but the first", empty.components(all - 1, false), 1);
            Check.due("without all", empty.components(all, false), 0);
            Check.due("without all, odd", empty.components(all, true), 0);
        }

        doc.says("`odd`: true for components with an odd number of nodes, false for all");
        scene.answers("5 and 2 nodes, odd", 1, x -> x.components(0, true));
        scene.answers("5 and 2 nodes, all", 2, x -> x.components(0, false));
        scene.answers("2, 2 and 2 nodes, odd", 0, x -> x.components(Check.set("c"), true));
        scene.answers("1, 1, 1 and 2 nodes, odd", 3, x -> x.components(Check.set("bd"), true));
        scene.answers("3 and 2 nodes, odd", 1, x -> x.components(Check.set("de"), true));

        doc.says("Returns the number of these components");
        Check.due("12 nodes apart", Check.made(12, "").components(0, true), 12);
        Check.due("12 nodes together", Check.complete(12).components(0, true), 0);
        Check.due("12 nodes together, all", Check.complete(12).components(0, false), 1);
        Check.due("11 of 12", Check.complete(12).components(1, true), 1);
        Check.due("a star without its middle", Check.made(12, "al,bl,cl,dl,el,fl,gl,hl,il,jl,kl")
                .components(2048, true), 11);
    }

    private static void refusedSets(Doc doc) {
        doc.says("Throws `IllegalArgumentException` if without is negative, or has a bit that stands for no node");
        for (int nodes : new int[] {2, 6, 11, 12}) {
            Scene scene = new Scene(nodes, nodes == 2 ? "ab!" : "ab!,bc,cd,de,ae", "x");
            int bound = 1 << nodes;
            int[] wrong = {-1, bound, -2, bound + 1, 2 * bound - 1, 2 * bound, 1 << 12, 1 << 16, 1 << 30, -bound,
                Integer.MIN_VALUE, Integer.MIN_VALUE + 1, Integer.MAX_VALUE};
            for (int set : wrong) {
                scene.refuses("components(" + set + ", false)", Check.NO_ARGUMENT, x -> x.components(set, false));
                scene.refuses("components(" + set + ", true)", Check.NO_ARGUMENT, x -> x.components(set, true));
            }
            scene.answers("without all nodes", 0, x -> x.components(bound - 1, false));
            scene.answers("without all but the first node", 1, x -> x.components(bound - 2, true));
        }
        MatchingGraph x = new MatchingGraph();
        Check.due("6 nodes", Check.answer(() -> x.components(64, false)), Check.NO_ARGUMENT);
        x.begin(7);
        Check.due("7 nodes", Check.answer(() -> x.components(64, false)), 6);
        x.begin(6);
        Check.due("6 nodes again", Check.answer(() -> x.components(64, false)), Check.NO_ARGUMENT);
    }

    private static void ifChanged(Doc doc) {
        Scene scene = new Scene(6, "ab,bc!,cd,ef", "ab!,x");
        doc.says("Returns the number of the graph if an edge were changed");
        scene.answers("ifChanged(4, 5)", 2, x -> x.ifChanged(4, 5));
        scene.answers("ifChanged(1, 2)", 3, x -> x.ifChanged(1, 2));
        scene.answers("ifChanged(0, 1)", 2, x -> x.ifChanged(0, 1));
        scene.answers("ifChanged(0, 3)", 3, x -> x.ifChanged(0, 3));

        doc.says("Nothing is changed");
        for (int one = 0; one < 6; one++) {
            for (int other = 0; other < 6; other++) {
                if (one != other) {
                    MatchingGraph x = Check.made(6, "ab!,bc,cd!,ef");
                    x.setEdge(0, 2, true);
                    String before = State.of(x);
                    x.ifChanged(one, other);
                    Check.due("behind ifChanged(" + one + ", " + other + ")", State.of(x), before);
                    x.undo();
                    Check.due("undo behind it", State.edges(x), "6: ab! bc cd! ef");
                }
            }
        }

        doc.says("`one`: a node");
        for (int nodes = 2; nodes <= 12; nodes++) {
            Check.due("the last node of " + nodes, Check.made(nodes, "").ifChanged(nodes - 1, 0), 1);
        }

        doc.says("`other`: another node");
        for (int nodes = 2; nodes <= 12; nodes++) {
            Check.due("the last node of " + nodes, Check.made(nodes, "").ifChanged(0, nodes - 1), 1);
        }
    }

    private static void changedEdges(Doc doc) {
        doc.says("this edge would be removed if there is one, and added if there is none");
        Check.due("the only edge removed", Check.made(2, "ab").ifChanged(0, 1), 0);
        Check.due("the only edge added", Check.made(2, "").ifChanged(0, 1), 1);
        MatchingGraph path = Check.made(5, "ab,bc");
        Check.due("one of two removed", path.ifChanged(0, 1), 1);
        Check.due("a new edge between exposed nodes", path.ifChanged(4, 3), 2);
        Check.due("a new edge at the end", path.ifChanged(3, 2), 2);
        Check.due("a new edge of no use", path.ifChanged(1, 3), 1);
        Check.due("a new edge that closes a cycle", path.ifChanged(0, 2), 1);
        MatchingGraph most = Check.complete(12);
        Check.due("one of all removed", most.ifChanged(0, 11), 6);
        MatchingGraph pairs = Check.made(12, "ab,cd,ef,gh,ij,kl");
        Check.due("one of six removed", pairs.ifChanged(11, 10), 5);
        Check.due("one more beside six", pairs.ifChanged(1, 2), 6);
        for (int graph = 0; graph < 64; graph++) {
            MatchingGraph x = Check.made(4, "");
            for (int pair = 0; pair < 6; pair++) {
                x.setEdge("000112".charAt(pair) - '0', "123233".charAt(pair) - '0', (graph >> pair & 1) != 0);
            }
            for (int pair = 0; pair < 6; pair++) {
                int one = "000112".charAt(pair) - '0';
                int other = "123233".charAt(pair) - '0';
                int told = x.ifChanged(one, other);
                x.setEdge(one, other, x.edge(one, other, 0) == 0);
                Check.due("number of " + graph + " behind a change of " + one + other, told, x.count(3));
                x.undo();
            }
        }
    }

    private static void refusedChanges(Doc doc) {
        doc.says("Throws `IndexOutOfBoundsException` if a node does not exist");
        for (int none : SCENE.noNodes()) {
            SCENE.refuses("ifChanged(" + none + ", 0)", Check.NO_INDEX, x -> x.ifChanged(none, 0));
            SCENE.refuses("ifChanged(0, " + none + ")", Check.NO_INDEX, x -> x.ifChanged(0, none));
            SCENE.refuses("the same, " + none, Check.NO_INDEX, x -> x.ifChanged(none, none));
        }
        SCENE.refuses("both", Check.NO_INDEX, x -> x.ifChanged(-1, 7));

        doc.says("Throws `IllegalArgumentException` if both nodes are the same");
        for (int node = 0; node < 7; node++) {
            int same = node;
            SCENE.refuses("ifChanged of " + same + " twice", Check.NO_ARGUMENT, x -> x.ifChanged(same, same));
        }
        Check.due("the last of 12", Check.answer(() -> Check.made(12, "").ifChanged(11, 11)), Check.NO_ARGUMENT);
    }
}
