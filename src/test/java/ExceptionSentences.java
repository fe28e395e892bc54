import java.util.LinkedHashMap;
import java.util.Map;

/** A test for each of the two sentences on exceptions, over all calls that may throw. */
final class ExceptionSentences {
    /** 6 nodes, of which a and b are matched; 5 edits, so that 4 are kept; a full buffer. */
    private static final Scene FULL = new Scene(6, "ab!,bc,cd,de,ef", "ab,".repeat(20));
    /** The fewest nodes, no edge and no edit. */
    private static final Scene LEAST = new Scene(2, "", "ab,");
    /** The most nodes, all of them matched. */
    private static final Scene MOST = new Scene(12, "ab!,cd!,ef!,gh!,ij!,kl!,bc", "x");

    private ExceptionSentences() {
    }

    static void test(Doc doc) {
        doc.terms();
        doc.says("A call that throws an exception changes nothing");
        refused(FULL, edgeCalls(6));
        refused(LEAST, edgeCalls(2));
        refused(MOST, edgeCalls(12));
        refused(FULL, lookingCalls(6));
        refused(LEAST, lookingCalls(2));
        refused(MOST, lookingCalls(12));
        LEAST.refuses("undo", Check.NO_STATE, MatchingGraph::undo);
        LEAST.refuses("unmatch(0)", Check.NO_STATE, x -> x.unmatch(0));
        LEAST.refuses("match(0, 1)", Check.NO_STATE, x -> x.match(0, 1));
        FULL.refuses("append('a')", Check.NO_STATE, x -> x.append('a'));
        for (Scene scene : new Scene[] {FULL, MOST}) {
            scene.refuses("match(0, 1)", Check.NO_STATE, x -> x.match(0, 1));
            scene.refuses("match(1, 2)", Check.NO_STATE, x -> x.match(1, 2));
            scene.refuses("augment(1)", Check.NO_STATE, x -> x.augment(1));
            scene.refuses("way(1)", Check.NO_STATE, x -> x.way(1));
            scene.refuses("wayNode(1, 0)", Check.NO_STATE, x -> x.wayNode(1, 0));
        }
        manyRefused();

        doc.says("If several exceptions apply, the one that is named first in the throws clause is thrown");
        firstOfSeveral(FULL, 6);
        firstOfSeveral(LEAST, 2);
        firstOfSeveral(MOST, 12);
        FULL.refuses("append(31) to 60", Check.NO_ARGUMENT, x -> x.append(31));
        FULL.refuses("append(127) to 60", Check.NO_ARGUMENT, x -> x.append(127));
    }

    /** Calls that throw an exception which is named in them. */
    private static void refused(Scene scene, Map<String, Scene.Call> calls) {
        for (Map.Entry<String, Scene.Call> call : calls.entrySet()) {
            String[] words = call.getKey().split(" throws ");
            scene.refuses(words[0], "throws." + words[1] + "Exception", call.getValue());
        }
    }

    private static Map<String, Scene.Call> edgeCalls(int nodes) {
        Map<String, Scene.Call> calls = new LinkedHashMap<>();
        calls.put("begin(1) throws IllegalArgument", x -> x.begin(1));
        calls.put("begin(13) throws IllegalArgument", x -> x.begin(13));
        calls.put("setEdge(-1, 0, true) throws IndexOutOfBounds", x -> x.setEdge(-1, 0, true));
        calls.put("setEdge(0, nodes, true) throws IndexOutOfBounds", x -> x.setEdge(0, nodes, true));
        calls.put("setEdge(1, nodes, false) throws IndexOutOfBounds", x -> x.setEdge(1, nodes, false));
        calls.put("setEdge(1, 1, true) throws IllegalArgument", x -> x.setEdge(1, 1, true));
        calls.put("setEdge(0, 0, false) throws IllegalArgument", x -> x.setEdge(0, 0, false));
        calls.put("append(31) throws IllegalArgument", x -> x.append(31));
        calls.put("append(127) throws IllegalArgument", x -> x.append(127));
        calls.put("load throws IllegalArgument", MatchingGraph::load);
        calls.put("match(-1, 0) throws IndexOutOfBounds", x -> x.match(-1, 0));
        calls.put("match(0, nodes) throws IndexOutOfBounds", x -> x.match(0, nodes));
        calls.put("match(1, 1) throws IllegalState", x -> x.match(1, 1));
        calls.put("unmatch(-1) throws IndexOutOfBounds", x -> x.unmatch(-1));
        calls.put("unmatch(nodes) throws IndexOutOfBounds", x -> x.unmatch(nodes));
        calls.put("augment(-1) throws IndexOutOfBounds", x -> x.augment(-1));
        calls.put("augment(nodes) throws IndexOutOfBounds", x -> x.augment(nodes));
        return calls;
    }

    private static Map<String, Scene.Call> lookingCalls(int nodes) {
        Map<String, Scene.Call> calls = new LinkedHashMap<>();
        calls.put("way(-1) throws IndexOutOfBounds", x -> x.way(-1));
        calls.put("way(nodes) throws IndexOutOfBounds", x -> x.way(nodes));
        calls.put("wayNode(-1, 0) throws IndexOutOfBounds", x -> x.wayNode(-1, 0));
        calls.put("wayNode(nodes, 0) throws IndexOutOfBounds", x -> x.wayNode(nodes, 0));
        calls.put("reach(-1, true) throws IndexOutOfBounds", x -> x.reach(-1, true));
        calls.put("reach(nodes, false) throws IndexOutOfBounds", x -> x.reach(nodes, false));
        calls.put("firstMate(-1) throws IndexOutOfBounds", x -> x.firstMate(-1));
        calls.put("firstMate(nodes) throws IndexOutOfBounds", x -> x.firstMate(nodes));
        calls.put("components(-1) throws IllegalArgument", x -> x.components(-1, false));
        calls.put("components(1 << nodes) throws IllegalArgument", x -> x.components(1 << nodes, true));
        calls.put("ifChanged(-1, 0) throws IndexOutOfBounds", x -> x.ifChanged(-1, 0));
        calls.put("ifChanged(0, nodes) throws IndexOutOfBounds", x -> x.ifChanged(0, nodes));
        calls.put("ifChanged(1, 1) throws IllegalArgument", x -> x.ifChanged(1, 1));
        calls.put("node(-1, 0) throws IndexOutOfBounds", x -> x.node(-1, 0));
        calls.put("node(nodes, 0) throws IndexOutOfBounds", x -> x.node(nodes, 0));
        calls.put("node(0, 5) throws IllegalArgument", x -> x.node(0, 5));
        calls.put("edge(-1, 0, 0) throws IndexOutOfBounds", x -> x.edge(-1, 0, 0));
        calls.put("edge(0, nodes, 0) throws IndexOutOfBounds", x -> x.edge(0, nodes, 0));
        calls.put("edge(0, 1, 3) throws IllegalArgument", x -> x.edge(0, 1, 3));
        calls.put("count(-1) throws IllegalArgument", x -> x.count(-1));
        calls.put("count(11) throws IllegalArgument", x -> x.count(11));
        calls.put("difference(-1) throws IllegalArgument", x -> x.difference(-1));
        calls.put("difference(2) throws IllegalArgument", x -> x.difference(2));
        return calls;
    }

    /** Five refused edits in a row would push out all that is kept, if they were kept. */
    private static void manyRefused() {
        FULL.refuses("refused edits in a row", Check.NO_STATE, x -> {
            for (int time = 0; time < 5; time++) {
                Check.answer(() -> x.setEdge(2, 2, true));
                Check.answer(() -> x.match(0, 1));
                Check.answer(() -> x.unmatch(5));
                Check.answer(() -> x.augment(0));
                Check.answer(x::load);
                Check.answer(() -> x.begin(0));
            }
            return x.match(3, 3);
        });
    }

    private static void firstOfSeveral(Scene scene, int nodes) {
        for (int none : new int[] {-1, nodes, Integer.MIN_VALUE, Integer.MAX_VALUE}) {
            String name = " of " + none;
            scene.refuses("setEdge" + name, Check.NO_INDEX, x -> x.setEdge(none, none, true));
            scene.refuses("setEdge" + name, Check.NO_INDEX, x -> x.setEdge(none, none, false));
            scene.refuses("match, the same," + name, Check.NO_INDEX, x -> x.match(none, none));
            scene.refuses("match, one is matched," + name, Check.NO_INDEX, x -> x.match(0, none));
            scene.refuses("match, other is matched," + name, Check.NO_INDEX, x -> x.match(none, 0));
            scene.refuses("ifChanged" + name, Check.NO_INDEX, x -> x.ifChanged(none, none));
            for (int what : new int[] {-1, 3, 5, Integer.MIN_VALUE, Integer.MAX_VALUE}) {
                scene.refuses("node " + what + name, Check.NO_INDEX, x -> x.node(none, what == 3 ? 6 : what));
                scene.refuses("edge " + what + name, Check.NO_INDEX, x -> x.edge(none, 0, what));
                scene.refuses("edge " + what + " with" + name, Check.NO_INDEX, x -> x.edge(0, none, what));
                scene.refuses("edge " + what + " twice" + name, Check.NO_INDEX, x -> x.edge(none, none, what));
            }
        }
    }
}
