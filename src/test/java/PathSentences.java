/** A test for each sentence of the promises 14 to 17. */
final class PathSentences {
    private static final Scene SCENE = new Scene(8, "ab,bc!,cd,de!,ef,ag", "ab!,x");
    private static final String LONGEST = "ab,bc!,cd,de!,ef,fg!,gh,hi!,ij,jk!,kl";

    private PathSentences() {
    }

    static void test(Doc doc) {
        doc.promise(14);
        way(doc);
        refusedWays(doc);
        doc.promise(15);
        wayNode(doc);
        placesBesideTheWay(doc);
        refusedWayNodes(doc);
        doc.promise(16);
        reach(doc);
        refusedReaches(doc);
        doc.promise(17);
        oddCycle(doc);
    }

    private static void way(Doc doc) {
        doc.says("Returns the length of the way of a node");
        SCENE.answers("way(0)", 1, x -> x.way(0));
        SCENE.answers("way(5)", 5, x -> x.way(5));
        SCENE.answers("way(6)", 1, x -> x.way(6));
        SCENE.answers("way(7)", 0, x -> x.way(7));

        doc.says("`node`: the node");
        for (int nodes = 2; nodes <= 12; nodes++) {
            int last = nodes - 1;
            String edge = "a" + (char) ('a' + last);
            Check.due("the first of " + nodes, Check.made(nodes, edge).way(0), 1);
            Check.due("the last of " + nodes, Check.made(nodes, edge).way(last), 1);
        }

        doc.says("Returns the length; 0 if there is none");
        for (int nodes = 2; nodes <= 12; nodes++) {
            String path = LONGEST.replace("!", "").substring(0, 3 * nodes - 4);
            MatchingGraph x = Check.made(nodes, path);
            for (int node = 1; node + 1 < nodes; node += 2) {
                x.match(node, node + 1);
            }
            Check.due("a path with " + nodes + " nodes", x.way(0), nodes % 2 == 0 ? nodes - 1 : 0);
        }
        Check.due("no edges", Check.made(12, "").way(0), 0);
        Check.due("no other exposed node", Check.made(3, "ab!,bc").way(2), 0);
        Check.due("no path to it", Check.made(4, "ab!,bc").way(3), 0);
        Check.due("the shortest of 3 and 5", Check.made(8, "ab,bc!,cd,de!,ef,eg,ch").way(0), 3);
        Check.due("through an odd cycle", Check.made(8, "ab,bc!,cd,de!,ce,df,fg!,gh").way(0), 7);
    }

    private static void refusedWays(Doc doc) {
        doc.says("Throws `IndexOutOfBoundsException` if the node does not exist");
        for (int none : SCENE.noNodes()) {
            SCENE.refuses("way(" + none + ")", Check.NO_INDEX, x -> x.way(none));
        }
        MatchingGraph gone = Check.made(12, "kl!");
        gone.begin(11);
        Check.due("a node that is gone", Check.answer(() -> gone.way(11)), Check.NO_INDEX);
        Check.due("the last node", Check.answer(() -> gone.way(10)), 0);

        doc.says("Throws `IllegalStateException` if it is matched");
        for (int node = 1; node <= 4; node++) {
            int matched = node;
            SCENE.refuses("way(" + matched + ")", Check.NO_STATE, x -> x.way(matched));
        }
        MatchingGraph x = Check.made(2, "ab!");
        Check.due("matched", Check.answer(() -> x.way(1)), Check.NO_STATE);
        x.unmatch(0);
        Check.due("exposed", Check.answer(() -> x.way(1)), 1);
    }

    private static void wayNode(Doc doc) {
        doc.says("Returns a node of the way of a node");
        int[] want = {5, 4, 3, 2, 1, 0};
        for (int place = 0; place < want.length; place++) {
            int at = place;
            SCENE.answers("wayNode(5, " + at + ")", want[at], x -> x.wayNode(5, at));
        }
        SCENE.answers("wayNode(0, 1)", 6, x -> x.wayNode(0, 1));

        doc.says("`node`: the node");
        for (int nodes = 2; nodes <= 12; nodes++) {
            int last = nodes - 1;
            String edge = "a" + (char) ('a' + last);
            Check.due("the first of " + nodes, Check.made(nodes, edge).wayNode(0, 1), last);
            Check.due("the last of " + nodes, Check.made(nodes, edge).wayNode(last, 1), 0);
        }

        doc.says("`place`: its place, 0 for the node itself");
        MatchingGraph x = Check.made(12, LONGEST);
        for (int place = 0; place <= 11; place++) {
            Check.due("place " + place + " from a", x.wayNode(0, place), place);
            Check.due("place " + place + " from l", x.wayNode(11, place), 11 - place);
        }
    }

    private static void placesBesideTheWay(Doc doc) {
        doc.says("Returns the node at this place; NONE if the way has no such place, or there is none");
        MatchingGraph x = Check.made(12, LONGEST);
        for (int place : Scene.beside(11)) {
            Check.due("no place " + place + " in the longest way", x.wayNode(0, place), -1);
        }
        MatchingGraph edge = Check.made(6, "ab!,bc,ef");
        Check.due("place 0", edge.wayNode(4, 0), 4);
        Check.due("place 1", edge.wayNode(4, 1), 5);
        for (int place : Scene.beside(1)) {
            Check.due("no place " + place + " in a way of length 1", edge.wayNode(5, place), -1);
        }
        for (int place : new int[] {0, 1, 2, -1, 11, 12, Integer.MIN_VALUE, Integer.MAX_VALUE}) {
            Check.due("place " + place + " without a way", edge.wayNode(2, place), -1);
            Check.due("place " + place + " without an edge", edge.wayNode(3, place), -1);
        }
        MatchingGraph four = Check.made(12, "ab,bc!,cd");
        Check.due("a longer way before", x.wayNode(0, 4), 4);
        Check.due("the last place", four.wayNode(3, 3), 0);
        Check.due("the place behind it", four.wayNode(3, 4), -1);
        MatchingGraph shrunk = Check.made(12, LONGEST);
        Check.due("a long way", shrunk.wayNode(0, 11), 11);
        shrunk.setEdge(0, 11, true);
        Check.due("a short way", shrunk.wayNode(0, 1), 11);
        Check.due("nothing of the long one", shrunk.wayNode(0, 2), -1);
        shrunk.setEdge(0, 11, false);
        shrunk.setEdge(0, 1, false);
        Check.due("no way then", shrunk.wayNode(0, 0), -1);
    }

    private static void refusedWayNodes(Doc doc) {
        doc.says("Throws `IndexOutOfBoundsException` if the node does not exist");
        for (int none : SCENE.noNodes()) {
            SCENE.refuses("wayNode(" + none + ", 0)", Check.NO_INDEX, x -> x.wayNode(none, 0));
            SCENE.refuses("wayNode(" + none + ", 99)", Check.NO_INDEX, x -> x.wayNode(none, 99));
            SCENE.refuses("wayNode(" + none + ", -1)", Check.NO_INDEX, x -> x.wayNode(none, -1));
        }

        doc.says("Throws `IllegalStateException` if it is matched");
        for (int place : new int[] {0, 1, -1, 2, 12, Integer.MIN_VALUE, Integer.MAX_VALUE}) {
            SCENE.refuses("wayNode(1, " + place + ")", Check.NO_STATE, x -> x.wayNode(1, place));
            SCENE.refuses("wayNode(4, " + place + ")", Check.NO_STATE, x -> x.wayNode(4, place));
        }
        SCENE.answers("wayNode of an exposed node", 0, x -> x.wayNode(0, 0));
    }

    private static void reach(Doc doc) {
        doc.says("Returns the nodes to which alternating paths from a node lead");
        SCENE.answers("reach(0, true)", Check.set("ace"), x -> x.reach(0, true));
        SCENE.answers("reach(0, false)", Check.set("bdfg"), x -> x.reach(0, false));
        SCENE.answers("reach(6, true)", Check.set("g"), x -> x.reach(6, true));
        SCENE.answers("reach(6, false)", Check.set("a"), x -> x.reach(6, false));
        MatchingGraph flower = Check.made(8, "ab,bc!,cd,de!,ce,df,fg!,gh");
        Check.due("round an odd cycle, even", flower.reach(0, true), Check.set("acdeg"));
        Check.due("round an odd cycle, odd", flower.reach(0, false), Check.set("bdefh"));
        MatchingGraph cycle = Check.made(11, "ab,bc!,cd,de!,ef,fg!,gh,hi!,ij,jk!,ak");
        Check.due("a cycle of 11, even", cycle.reach(0, true), Check.set("abcdefghijk"));
        Check.due("a cycle of 11, odd", cycle.reach(0, false), Check.set("bcdefghijk"));

        doc.says("`node`: the node");
        for (int nodes = 2; nodes <= 12; nodes++) {
            int last = nodes - 1;
            String edge = "a" + (char) ('a' + last);
            Check.due("the first of " + nodes, Check.made(nodes, edge).reach(0, false), 1 << last);
            Check.due("the last of " + nodes, Check.made(nodes, edge).reach(last, false), 1);
        }

        doc.says("`even`: true for paths of an even length (the node itself counts), false for those of an odd length");
        MatchingGraph x = Check.made(4, "bc,cd!");
        Check.due("length 0", x.reach(0, true), 1);
        Check.due("no length 1", x.reach(0, false), 0);
        Check.due("lengths 0 and 2", x.reach(1, true), Check.set("bd"));
        Check.due("length 1", x.reach(1, false), Check.set("c"));
        MatchingGraph round = Check.made(4, "ab,bc!,ac,cd");
        Check.due("the node itself is at no odd length", round.reach(0, false), Check.set("bcd"));
        Check.due("nodes at both lengths", round.reach(0, true), Check.set("abc"));
    }

    private static void refusedReaches(Doc doc) {
        doc.says("Returns the nodes, as a bit mask; 0 if the node is matched");
        MatchingGraph star = Check.made(12, "al,bl,cl,dl,el,fl,gl,hl,il,jl,kl");
        Check.due("all but the last one", star.reach(11, false), 2047);
        Check.due("the last one", star.reach(0, false), 2048);
        Check.due("the node itself", star.reach(11, true), 2048);
        star.match(0, 11);
        Check.due("a matched node, even", star.reach(11, true), 0);
        Check.due("a matched node, odd", star.reach(11, false), 0);
        Check.due("its mate, even", star.reach(0, true), 0);
        Check.due("its mate, odd", star.reach(0, false), 0);
        Check.due("an exposed node beside them", star.reach(1, true), Check.set("ab"));
        star.unmatch(0);
        Check.due("exposed again", star.reach(0, true), 1);

        doc.says("Throws `IndexOutOfBoundsException` if the node does not exist");
        for (int none : SCENE.noNodes()) {
            SCENE.refuses("reach(" + none + ", true)", Check.NO_INDEX, x -> x.reach(none, true));
            SCENE.refuses("reach(" + none + ", false)", Check.NO_INDEX, x -> x.reach(none, false));
        }
        Check.due("the last node", Check.made(12, "").reach(11, true), 2048);
    }

    private static void oddCycle(Doc doc) {
        doc.says("Returns the length of the shortest cycle with an odd length");
        new Scene(7, "ab,bc!,cd,de,ae,cf,fg", "x").answers("oddCycle", 5, MatchingGraph::oddCycle);
        Check.due("3 beside 5", Check.made(8, "ab,bc,cd,de,ae,fg,gh,fh").oddCycle(), 3);
        Check.due("5 beside 4", Check.made(9, "ab,bc,cd,ad,ef,fg,gh,hi,ei").oddCycle(), 5);
        Check.due("7 with an edge across it", Check.made(7, "ab,bc,cd,de,ef,fg,ag,ad").oddCycle(), 5);
        Check.due("9 with an edge across it", Check.made(9, "ab,bc,cd,de,ef,fg,gh,hi,ai,ad").oddCycle(), 7);
        Check.due("the last three of 12 nodes", Check.made(12, "jk,kl,jl").oddCycle(), 3);
        Check.due("all pairs", Check.complete(12).oddCycle(), 3);

        doc.says("Returns the length; NONE if there is none");
        String[] cycles = {"ab,bc,ac", "ab,bc,cd,ad", "ab,bc,cd,de,ae", "ab,bc,cd,de,ef,af", "ab,bc,cd,de,ef,fg,ag",
            "ab,bc,cd,de,ef,fg,gh,ah", "ab,bc,cd,de,ef,fg,gh,hi,ai", "ab,bc,cd,de,ef,fg,gh,hi,ij,aj",
            "ab,bc,cd,de,ef,fg,gh,hi,ij,jk,ak", "ab,bc,cd,de,ef,fg,gh,hi,ij,jk,kl,al"};
        for (int length = 3; length <= 12; length++) {
            String cycle = cycles[length - 3];
            String open = cycle.substring(0, cycle.length() - 3);
            int want = length % 2 == 1 ? length : -1;
            Check.due("a cycle of " + length, Check.made(length, cycle).oddCycle(), want);
            Check.due("a cycle of " + length + " among 12 nodes", Check.made(12, cycle).oddCycle(), want);
            Check.due("a path with " + length + " nodes", Check.made(length, open).oddCycle(), -1);
        }
        Check.due("no edges", Check.made(12, "").oddCycle(), -1);
        Check.due("2 nodes", Check.made(2, "ab").oddCycle(), -1);
        Check.due("even cycles that touch", Check.made(7, "ab,bc,cd,ad,de,ef,fg,dg").oddCycle(), -1);
    }
}
