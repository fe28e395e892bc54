/** A test for each sentence of the terms on edits, and of the promises 8 to 13. */
final class EditSentences {
    private static final Scene PATH = new Scene(6, "ab!,bc,cd,de,ef", "ab!,x");

    private EditSentences() {
    }

    static void test(Doc doc) {
        doc.terms();
        edits(doc);
        kept(doc);
        doc.promise(8);
        match(doc);
        refusedMatches(doc);
        doc.promise(9);
        unmatch(doc);
        doc.promise(10);
        augment(doc);
        refusedAugments(doc);
        doc.promise(11);
        maximize(doc);
        doc.promise(12);
        takeFirst(doc);
        doc.promise(13);
        undo(doc);
        undoBesideOthers(doc);
    }

    private static void edits(Doc doc) {
        doc.says("Each call of setEdge, match, unmatch, augment, maximize, takeFirst and load that throws no exception");
        Scene scene = new Scene(7, "ab!,bc,cd!,de,fg", "ac,fg!");
        scene.edits("setEdge", 0, " ab! ac bc cd! de fg", x -> x.setEdge(0, 2, true));
        scene.edits("match", 3, " ab! bc cd! de fg!", x -> x.match(5, 6));
        scene.edits("unmatch", 2, " ab! bc cd de fg", x -> x.unmatch(3));
        scene.edits("augment", 1, " ab! bc cd! de fg!", x -> x.augment(6));
        scene.edits("maximize", 1, " ab! bc cd! de fg!", MatchingGraph::maximize);
        scene.edits("takeFirst", 1, " ab! bc cd! de fg!", MatchingGraph::takeFirst);
        scene.edits("load", 1, " ab! ac bc cd! de fg!", MatchingGraph::load);
        Scene ended = new Scene(5, "ab!,bc,cd!,de,be", "ab!,cd");
        String same = " ab! bc be cd! de";
        ended.edits("setEdge of an edge that is there", 1, same, x -> x.setEdge(0, 1, true));
        ended.edits("setEdge of none that is not there", 0, same, x -> x.setEdge(0, 4, false));
        ended.edits("augment without a way", 0, same, x -> x.augment(4));
        ended.edits("maximize of a maximum one", 0, same, MatchingGraph::maximize);
        ended.edits("takeFirst of the first one", 0, same, MatchingGraph::takeFirst);
        ended.edits("load of edges that are there", 0, same, MatchingGraph::load);
        noEdits(scene);
    }

    /** No other call is one; each leaves all edits as they are. */
    private static void noEdits(Scene scene) {
        scene.answers("firstError", 6, MatchingGraph::firstError);
        scene.answers("append and clearInput", 7, x -> {
            int length = x.append('!');
            x.clearInput();
            Check.type(x, "ac,fg!");
            return length;
        });
        scene.answers("way", 1, x -> x.way(5));
        scene.answers("wayNode", 6, x -> x.wayNode(5, 1));
        scene.answers("reach", 64, x -> x.reach(5, false));
        scene.answers("oddCycle", -1, MatchingGraph::oddCycle);
        scene.answers("firstMate", 6, x -> x.firstMate(5));
        scene.answers("proof", 0, MatchingGraph::proof);
        scene.answers("components", 2, x -> x.components(0, false));
        scene.answers("ifChanged", 3, x -> x.ifChanged(0, 1));
        scene.answers("node", 3, x -> x.node(2, 1));
        scene.answers("edge", 1, x -> x.edge(0, 1, 1));
        scene.answers("count", 3, x -> x.count(3));
        scene.answers("difference", 1, x -> x.difference(1));
        scene.answers("meanUse", 9.0 / 15, MatchingGraph::meanUse);
        scene.answers("digest", "no exception", x -> x.digest() == x.digest() ? "no exception" : "two answers");
    }

    private static void kept(Doc doc) {
        doc.says("Before an edit the graph and the matching are saved; at most 4 are kept in this way");
        for (int edits = 0; edits <= 11; edits++) {
            MatchingGraph x = Check.made(12, "");
            for (int node = 0; node < edits; node++) {
                x.setEdge(node, node + 1, true);
            }
            int kept = Math.min(edits, 4);
            Check.due("kept of " + edits, x.count(10), kept);
            for (int left = kept - 1; left >= 0; left--) {
                Check.due("undo behind " + edits, x.undo(), left);
            }
            Check.due("no more behind " + edits, Check.answer(x::undo), Check.NO_STATE);
            Check.due("edges that stay of " + edits, x.count(1), edits - kept);
        }
        MatchingGraph x = Check.made(8, "ab,bc!,cd");
        x.augment(0);
        x.unmatch(1);
        x.setEdge(2, 3, false);
        Check.due("4 edits", x.count(10), 4);
        x.takeFirst();
        Check.due("4 are kept of 5", x.count(10), 4);
        String[] want = {"8: ab bc", "8: ab bc cd!", "8: ab! bc cd!", "8: ab bc! cd"};
        for (String edges : want) {
            x.undo();
            Check.due("the graph and the matching before an edit", State.edges(x), edges);
        }
        Check.due("the oldest one is forgotten", Check.answer(x::undo), Check.NO_STATE);
    }

    private static void match(Doc doc) {
        doc.says("Adds an edge to the matching");
        Scene scene = new Scene(6, "ab,bc,cd,de,ef!");
        scene.edits("match(0, 1)", 2, " ab! bc cd de ef!", x -> x.match(0, 1));
        scene.edits("match(2, 1)", 2, " ab bc! cd de ef!", x -> x.match(2, 1));
        scene.edits("match(3, 2)", 2, " ab bc cd! de ef!", x -> x.match(3, 2));
        MatchingGraph x = Check.made(4, "ab");
        x.match(1, 0);
        Check.due("mates of both", x.node(0, 1) * 10 + x.node(1, 1), 10);

        doc.says("This is an edit");
        scene.edits("match(0, 1)", 2, " ab! bc cd de ef!", y -> y.match(0, 1));
        Check.due("edits", x.count(10), 2);
        Check.due("undone", x.undo(), 1);
        Check.due("behind it", State.edges(x), "4: ab");

        doc.says("`one`: a node");
        for (int nodes = 2; nodes <= 12; nodes++) {
            int last = nodes - 1;
            MatchingGraph ends = Check.made(nodes, "a" + (char) ('a' + last));
            Check.due("the last node of " + nodes, Check.answer(() -> ends.match(last, 0)), 1);
        }

        doc.says("`other`: another node");
        for (int nodes = 2; nodes <= 12; nodes++) {
            int last = nodes - 1;
            MatchingGraph ends = Check.made(nodes, "a" + (char) ('a' + last));
            Check.due("the last node of " + nodes, Check.answer(() -> ends.match(0, last)), 1);
        }

        doc.says("Returns the size of the matching then");
        MatchingGraph most = Check.made(12, "ab,cd,ef,gh,ij,kl");
        for (int size = 1; size <= 6; size++) {
            Check.due("match", most.match(12 - 2 * size, 13 - 2 * size), size);
        }
        most.unmatch(0);
        Check.due("match again", most.match(0, 1), 6);
    }

    private static void refusedMatches(Doc doc) {
        doc.says("Throws `IndexOutOfBoundsException` if a node does not exist");
        for (int none : PATH.noNodes()) {
            PATH.refuses("match(" + none + ", 2)", Check.NO_INDEX, x -> x.match(none, 2));
            PATH.refuses("match(2, " + none + ")", Check.NO_INDEX, x -> x.match(2, none));
            PATH.refuses("one is matched, " + none, Check.NO_INDEX, x -> x.match(0, none));
            PATH.refuses("other is matched, " + none, Check.NO_INDEX, x -> x.match(none, 1));
            PATH.refuses("the same, " + none, Check.NO_INDEX, x -> x.match(none, none));
        }
        PATH.refuses("both", Check.NO_INDEX, x -> x.match(-1, 6));
        MatchingGraph gone = Check.made(12, "kl");
        gone.begin(11);
        Check.due("a node that is gone", Check.answer(() -> gone.match(10, 11)), Check.NO_INDEX);

        doc.says("Throws `IllegalStateException` if they are not adjacent (as a node and itself), or one of them is");
        PATH.refuses("not adjacent, both exposed", Check.NO_STATE, x -> x.match(2, 4));
        PATH.refuses("not adjacent, one matched", Check.NO_STATE, x -> x.match(0, 2));
        PATH.refuses("not adjacent, other matched", Check.NO_STATE, x -> x.match(5, 1));
        PATH.refuses("adjacent, one matched", Check.NO_STATE, x -> x.match(1, 2));
        PATH.refuses("adjacent, other matched", Check.NO_STATE, x -> x.match(2, 1));
        PATH.refuses("in the matching", Check.NO_STATE, x -> x.match(0, 1));
        PATH.refuses("in the matching, turned round", Check.NO_STATE, x -> x.match(1, 0));
        for (int node = 0; node < 6; node++) {
            int same = node;
            PATH.refuses("a node and itself", Check.NO_STATE, x -> x.match(same, same));
        }
        new Scene(4, "ab!,bc,cd!").refuses("both matched", Check.NO_STATE, x -> x.match(1, 2));
        new Scene(2, "").refuses("no edge", Check.NO_STATE, x -> x.match(0, 1));
        MatchingGraph x = Check.made(4, "ab!,bc");
        x.setEdge(1, 2, false);
        x.unmatch(1);
        Check.due("not adjacent any more", Check.answer(() -> x.match(1, 2)), Check.NO_STATE);
        x.setEdge(1, 2, true);
        Check.due("adjacent again", Check.answer(() -> x.match(1, 2)), 1);
    }

    private static void unmatch(Doc doc) {
        doc.says("Removes an edge from the matching");
        Scene scene = new Scene(6, "ab!,bc,cd!,de,ef!", "ab");
        scene.edits("unmatch(0)", 1, " ab bc cd! de ef!", x -> x.unmatch(0));
        scene.edits("unmatch(3)", 2, " ab! bc cd de ef!", x -> x.unmatch(3));
        scene.edits("unmatch(4)", 5, " ab! bc cd! de ef", x -> x.unmatch(4));

        doc.says("This is an edit");
        scene.edits("unmatch(5)", 4, " ab! bc cd! de ef", x -> x.unmatch(5));
        MatchingGraph x = Check.made(2, "ab!");
        x.unmatch(0);
        Check.due("edits", x.count(10), 2);
        x.undo();
        Check.due("undone", State.edges(x), "2: ab!");

        doc.says("`node`: a node of it");
        for (int node = 0; node < 12; node++) {
            MatchingGraph y = Check.made(12, "ab!,cd!,ef!,gh!,ij!,kl!");
            y.unmatch(node);
            Check.due("one edge less behind unmatch(" + node + ")", y.count(2), 5);
            Check.due("this one", y.edge(node, node ^ 1, 1), 0);
        }

        doc.says("Returns its mate");
        for (int nodes = 2; nodes <= 12; nodes++) {
            int last = nodes - 1;
            String edge = "a" + (char) ('a' + last) + "!";
            Check.due("the first of " + nodes, Check.made(nodes, edge).unmatch(0), last);
            Check.due("the last of " + nodes, Check.made(nodes, edge).unmatch(last), 0);
        }

        doc.says("Throws `IndexOutOfBoundsException` if the node does not exist");
        for (int none : scene.noNodes()) {
            scene.refuses("unmatch(" + none + ")", Check.NO_INDEX, y -> y.unmatch(none));
        }
        MatchingGraph gone = Check.made(12, "kl!");
        gone.begin(11);
        Check.due("a node that is gone", Check.answer(() -> gone.unmatch(11)), Check.NO_INDEX);
        Check.due("a node whose mate is gone", Check.answer(() -> gone.unmatch(10)), Check.NO_STATE);

        doc.says("Throws `IllegalStateException` if it is exposed");
        for (int node = 2; node < 6; node++) {
            int exposed = node;
            PATH.refuses("unmatch(" + exposed + ")", Check.NO_STATE, y -> y.unmatch(exposed));
        }
        MatchingGraph once = Check.made(4, "ab!");
        once.unmatch(1);
        Check.due("a second time", Check.answer(() -> once.unmatch(1)), Check.NO_STATE);
        Check.due("its mate", Check.answer(() -> once.unmatch(0)), Check.NO_STATE);
    }

    private static void augment(Doc doc) {
        doc.says("Augments along the way of a node, if there is one");
        Scene scene = new Scene(8, "ab,bc!,cd,de!,ef,gh!,bg");
        scene.edits("augment(0)", 5, " ab! bc bg cd! de ef! gh!", x -> x.augment(0));
        scene.edits("augment(5)", 5, " ab! bc bg cd! de ef! gh!", x -> x.augment(5));
        new Scene(4, "ac,ad,bc,cd").edits("the less way", 1, " ac! ad bc cd", x -> x.augment(0));
        new Scene(6, "ab,bc!,cd,af").edits("the shorter way", 1, " ab af! bc! cd", x -> x.augment(0));
        new Scene(8, "ab,bc!,cd,de!,ce,df,fg!,gh").edits("through an odd cycle", 7,
                " ab! bc cd ce! de df! fg gh!", x -> x.augment(0));
        new Scene(5, "ab,bc!,ac,de").edits("no way", 0, " ab ac bc! de", x -> x.augment(0));

        doc.says("This is an edit");
        new Scene(5, "ab!,bc,cd!,de").edits("augment without a way", 0, " ab! bc cd! de", x -> x.augment(4));
        new Scene(2, "").edits("augment without an edge", 0, "", x -> x.augment(1));
        new Scene(2, "ab").edits("augment", 1, " ab!", x -> x.augment(1));

        doc.says("`node`: the node");
        for (int nodes = 2; nodes <= 12; nodes++) {
            int last = nodes - 1;
            String edge = "a" + (char) ('a' + last);
            Check.due("the first of " + nodes, Check.made(nodes, edge).augment(0), 1);
            Check.due("the last of " + nodes, Check.made(nodes, edge).augment(last), 1);
        }
    }

    private static void refusedAugments(Doc doc) {
        doc.says("Returns the length of the way; 0 if there is none");
        String[] edges = {"ab,", "bc!,cd,", "de!,ef,", "fg!,gh,", "hi!,ij,", "jk!,kl,"};
        StringBuilder text = new StringBuilder();
        for (int pairs = 0; pairs < 6; pairs++) {
            text.append(edges[pairs]);
            String path = text.substring(0, text.length() - 1);
            Check.due("through " + pairs + " pairs", Check.made(12, path).augment(0), 2 * pairs + 1);
            Check.due("from its end", Check.made(12, path).augment(2 * pairs + 1), 2 * pairs + 1);
        }
        Check.due("no edges", Check.made(12, "").augment(11), 0);
        Check.due("no exposed node at the end", Check.made(11, "ab,bc!,cd,de!,ef,fg!,gh,hi!,ij,jk!").augment(0), 0);
        MatchingGraph twice = Check.made(3, "ab,bc");
        Check.due("a way", twice.augment(2), 1);
        Check.due("none then", twice.augment(0), 0);

        doc.says("Throws `IndexOutOfBoundsException` if the node does not exist");
        for (int none : PATH.noNodes()) {
            PATH.refuses("augment(" + none + ")", Check.NO_INDEX, x -> x.augment(none));
        }
        MatchingGraph gone = Check.made(12, "kl!");
        gone.begin(11);
        Check.due("a node that is gone", Check.answer(() -> gone.augment(11)), Check.NO_INDEX);
        Check.due("a node whose mate is gone", Check.answer(() -> gone.augment(10)), 0);

        doc.says("Throws `IllegalStateException` if it is matched");
        PATH.refuses("augment(0)", Check.NO_STATE, x -> x.augment(0));
        PATH.refuses("augment(1)", Check.NO_STATE, x -> x.augment(1));
        MatchingGraph x = Check.made(2, "ab!");
        x.unmatch(0);
        Check.due("exposed now", Check.answer(() -> x.augment(0)), 1);
        Check.due("matched now", Check.answer(() -> x.augment(1)), Check.NO_STATE);
    }

    private static void maximize(Doc doc) {
        doc.says("Augments along the way of the lowest exposed node that has one, again and again until there is none");
        new Scene(3, "ac,bc").edits("the lowest one first", 1, " ac! bc", MatchingGraph::maximize);
        new Scene(3, "ab,bc").edits("its least way", 1, " ab! bc", MatchingGraph::maximize);
        new Scene(4, "bc,cd").edits("one without a way first", 1, " bc! cd", MatchingGraph::maximize);
        new Scene(4, "ab,ac,bd").edits("again", 2, " ab ac! bd!", MatchingGraph::maximize);
        new Scene(6, "ab,bc!,cd,ef").edits("until there is none", 2, " ab! bc cd! ef!", MatchingGraph::maximize);
        new Scene(8, "ab,bc!,cd,de!,ce,df,fg!,gh").edits("through an odd cycle", 1,
                " ab! bc cd ce! de df! fg gh!", MatchingGraph::maximize);
        new Scene(5, "ab!,bc,cd!,de").edits("there is none", 0, " ab! bc cd! de", MatchingGraph::maximize);
        new Scene(5, "ae,be!,ce").edits("a matching that is not the first one stays", 0, " ae be! ce",
                MatchingGraph::maximize);
        new Scene(6, "af,bf!,bc,cd!,de").edits("not an edge, but the way of a", 1, " af! bc! bf cd de!",
                MatchingGraph::maximize);

        doc.says("This is an edit");
        new Scene(2, "").edits("without edges", 0, "", MatchingGraph::maximize);
        new Scene(2, "ab!").edits("of a maximum one", 0, " ab!", MatchingGraph::maximize);
        MatchingGraph x = Check.complete(8);
        x.maximize();
        x.undo();
        Check.due("one edit, however often it augments", x.count(2), 0);

        doc.says("Returns how often it was augmented");
        for (int nodes = 2; nodes <= 12; nodes++) {
            MatchingGraph all = Check.complete(nodes);
            Check.due("all pairs of " + nodes + " nodes", all.maximize(), nodes / 2);
            Check.due("once more", all.maximize(), 0);
            Check.due("no edges", Check.made(nodes, "").maximize(), 0);
        }
        Check.due("one is matched already", Check.made(12, "ab,cd,ef,gh!,ij,kl").maximize(), 5);
        Check.due("one is left", Check.made(12, "ab!,cd!,ef,gh!,ij!,kl!").maximize(), 1);
    }

    private static void takeFirst(Doc doc) {
        doc.says("Replaces the matching by the first maximum matching");
        new Scene(6, "ab,bc!,cd,de!,ef,af!").edits("a maximum one", 3, " ab! af bc cd! de ef!",
                MatchingGraph::takeFirst);
        new Scene(3, "ab,bc!").edits("one of the same size", 1, " ab! bc", MatchingGraph::takeFirst);
        new Scene(4, "ab,bc!,cd").edits("a smaller one", 2, " ab! bc cd!", MatchingGraph::takeFirst);
        new Scene(4, "ab!,ac,bd").edits("one that must go", 2, " ab ac! bd!", MatchingGraph::takeFirst);
        new Scene(4, "ab,ac,bd").edits("none", 2, " ab ac! bd!", MatchingGraph::takeFirst);
        new Scene(4, "ab!,cd!,bc").edits("the first one", 0, " ab! bc cd!", MatchingGraph::takeFirst);

        MatchingGraph taken = Check.made(4, "ab,bc!,cd,ad");
        taken.takeFirst();
        taken.unmatch(0);
        Check.due("the first one stays behind unmatch", taken.firstMate(0), 1);
        Scene.isLikeNew("behind takeFirst and unmatch", taken, "ab,bc,cd!,ad");

        doc.says("This is an edit");
        new Scene(2, "").edits("without edges", 0, "", MatchingGraph::takeFirst);
        new Scene(2, "ab!").edits("of the first one", 0, " ab!", MatchingGraph::takeFirst);
        new Scene(2, "ab").edits("of none", 1, " ab!", MatchingGraph::takeFirst);

        doc.says("Returns how many edges of it were not in the matching before");
        Check.due("no edges", Check.made(12, "").takeFirst(), 0);
        Check.due("none", Check.made(12, "ab!,cd!,ef!,gh!,ij!,kl!").takeFirst(), 0);
        Check.due("the first one", Check.made(12, "ab,cd!,ef!,gh!,ij!,kl!").takeFirst(), 1);
        Check.due("the last one", Check.made(12, "ab!,cd!,ef!,gh!,ij!,kl").takeFirst(), 1);
        Check.due("all", Check.complete(12).takeFirst(), 6);
        Check.due("one that is of no use before", Check.made(5, "ab!,cd,ce!,de").takeFirst(), 1);
        MatchingGraph x = Check.made(6, "ab,bc!,cd,de!,ef,af!");
        Check.due("all are others", x.takeFirst(), 3);
        Check.due("none is another", x.takeFirst(), 0);
    }

    private static void undo(Doc doc) {
        doc.says("Undoes the latest edit that is kept: the graph and the matching are as they were before it");
        MatchingGraph x = Check.made(5, "ab!,bc,cd!,de");
        long loaded = x.digest();
        x.setEdge(2, 3, false);
        long removed = x.digest();
        x.augment(4);
        Check.due("behind both", State.edges(x), "5: ab! bc de!");
        x.undo();
        Check.due("as before the latest one", x.digest(), removed);
        x.undo();
        Check.due("as before the one before it", x.digest(), loaded);
        Check.due("an edge and its place in the matching", State.edges(x), "5: ab! bc cd! de");
        x.unmatch(0);
        x.undo();
        Check.due("an edit behind undo is undone alone", x.digest(), loaded);
        x.undo();
        Check.due("as before all", State.edges(x), "5:");
        Check.due("none is kept any more", x.count(10), 0);

        answersBehindUndo();

        doc.says("Returns how many edits are still kept");
        for (int edits = 1; edits <= 6; edits++) {
            MatchingGraph y = new MatchingGraph();
            for (int time = 0; time < edits; time++) {
                y.maximize();
            }
            for (int left = Math.min(edits, 4) - 1; left >= 0; left--) {
                Check.due("undo of " + edits, y.undo(), left);
                Check.due("kept", y.count(10), left);
            }
        }
    }

    /** What was found out of another graph is not told of this one. */
    private static void answersBehindUndo() {
        MatchingGraph x = Check.made(4, "bc!");
        Scene.isLikeNew("at first", x, "bc!");
        x.setEdge(0, 1, true);
        x.setEdge(0, 1, true);
        x.undo();
        Scene.isLikeNew("behind an edit that changed nothing, undone", x, "bc!,ab");
        x.undo();
        Scene.isLikeNew("behind an edit undone", x, "bc!");
        x.setEdge(2, 3, true);
        Scene.isLikeNew("behind another edit", x, "bc!,cd");
        MatchingGraph y = Check.made(4, "ab!,cd!");
        y.count(3);
        y.setEdge(0, 1, false);
        Scene.isLikeNew("behind an edge taken away", y, "cd!");
        y.undo();
        Scene.isLikeNew("behind an edge brought back", y, "ab!,cd!");
        y.begin(4);
        Scene.isLikeNew("behind begin", y, "");
        Check.type(y, "bd!,ab");
        y.load();
        Scene.isLikeNew("behind load", y, "bd!,ab");
    }

    private static void undoBesideOthers(Doc doc) {
        doc.says("Throws `IllegalStateException` if no edit is kept");
        new Scene(6, "", "ab!").refuses("undo of a new object", Check.NO_STATE, MatchingGraph::undo);
        MatchingGraph one = Check.made(6, "ab!");
        Check.due("one is kept", Check.answer(one::undo), 0);
        Check.due("none is kept", Check.answer(one::undo), Check.NO_STATE);
        Check.due("none is kept, again", Check.answer(one::undo), Check.NO_STATE);
        Check.due("a refused one changes nothing", State.edges(one), "6:");
        one.setEdge(0, 5, true);
        Check.due("one is kept again", Check.answer(one::undo), 0);
        MatchingGraph begun = Check.made(6, "ab!");
        begun.begin(6);
        Check.due("none is kept behind begin", Check.answer(begun::undo), Check.NO_STATE);
        MatchingGraph refused = new MatchingGraph();
        Check.due("a refused edit", Check.answer(() -> refused.match(0, 1)), Check.NO_STATE);
        Check.due("is not kept", Check.answer(refused::undo), Check.NO_STATE);
        MatchingGraph five = new MatchingGraph();
        for (int time = 0; time < 5; time++) {
            five.takeFirst();
        }
        for (int left = 3; left >= 0; left--) {
            Check.due("undo of five", Check.answer(five::undo), left);
        }
        Check.due("the fifth undo", Check.answer(five::undo), Check.NO_STATE);
    }
}
