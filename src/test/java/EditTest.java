/** Promises 8 to 13: match, unmatch, augment, maximize, takeFirst, undo. */
public final class EditTest {
    public static void main(String[] args) {
        match();
        unmatch();
        augment();
        maximize();
        takeFirst();
        undo();
        undoOfEach();
        Check.end("EditTest");
    }

    private static void match() {
        MatchingGraph x = Check.made(6, "ab,bc,cd,ef");
        Check.due("match(1, 0)", x.match(1, 0), 1);
        Check.due("match(4, 5)", x.match(4, 5), 2);
        Check.due("behind match", State.edges(x), "6: ab! bc cd ef!");
        Check.due("edits", x.count(10), 3);
        Check.refused(x, "one is matched", IllegalStateException.class, () -> x.match(1, 2));
        Check.refused(x, "other is matched", IllegalStateException.class, () -> x.match(2, 1));
        Check.refused(x, "in the matching already", IllegalStateException.class, () -> x.match(0, 1));
        Check.refused(x, "not adjacent", IllegalStateException.class, () -> x.match(2, 5));
        Check.refused(x, "not adjacent, both exposed", IllegalStateException.class,
                () -> Check.made(6, "ab").match(2, 3));
        Check.refused(x, "the same", IllegalStateException.class, () -> x.match(3, 3));
        Check.refused(x, "no node 6", IndexOutOfBoundsException.class, () -> x.match(0, 6));
        Check.refused(x, "no node -1", IndexOutOfBoundsException.class, () -> x.match(-1, 0));
        Check.refused(x, "no nodes", IndexOutOfBoundsException.class, () -> x.match(6, 6));
        Check.due("match(2, 3)", x.match(2, 3), 3);
    }

    private static void unmatch() {
        MatchingGraph x = Check.made(5, "ab!,bc,cd!,de");
        Check.due("unmatch(3)", x.unmatch(3), 2);
        Check.due("behind unmatch", State.edges(x), "5: ab! bc cd de");
        Check.refused(x, "exposed now", IllegalStateException.class, () -> x.unmatch(3));
        Check.refused(x, "exposed now", IllegalStateException.class, () -> x.unmatch(2));
        Check.refused(x, "no node 5", IndexOutOfBoundsException.class, () -> x.unmatch(5));
        Check.refused(x, "no node -1", IndexOutOfBoundsException.class, () -> x.unmatch(-1));
        Check.due("unmatch(0)", x.unmatch(0), 1);
        Check.due("edits", x.count(10), 3);
        Check.due("size", x.count(2), 0);
    }

    private static void augment() {
        MatchingGraph x = Check.made(7, "ab,bc!,cd,de!,ae,cf");
        Check.due("augment along the shortest way", x.augment(5), 3);
        Check.due("behind augment", State.edges(x), "7: ab! ae bc cd cf! de!");
        Check.due("augment without a way", x.augment(6), 0);
        Check.due("that is an edit", x.count(10), 3);
        Check.refused(x, "matched", IllegalStateException.class, () -> x.augment(0));
        Check.refused(x, "no node 7", IndexOutOfBoundsException.class, () -> x.augment(7));
        Check.refused(x, "no node -1", IndexOutOfBoundsException.class, () -> x.augment(-1));
        MatchingGraph y = Check.made(6, "ab!,bc,cd!,de,ef!");
        y.unmatch(0);
        y.unmatch(4);
        Check.due("augment through nothing", y.augment(0), 1);
        Check.due("behind augment", State.edges(y), "6: ab! bc cd! de ef");
        MatchingGraph z = Check.made(4, "ad,ac,ab");
        z.augment(0);
        Check.due("the least one", State.edges(z), "4: ab! ac ad");
        MatchingGraph flower = Check.made(8, "ab,bc!,cd,de!,ce,df,fg!,gh");
        Check.due("augment through an odd cycle", flower.augment(0), 7);
        Check.due("behind it", State.edges(flower), "8: ab! bc cd ce! de df! fg gh!");
    }

    private static void maximize() {
        MatchingGraph x = Check.made(7, "ab,bc!,cd,ef");
        Check.due("maximize()", x.maximize(), 2);
        Check.due("behind maximize", State.edges(x), "7: ab! bc cd! ef!");
        Check.due("one edit", x.count(10), 2);
        Check.due("maximize() again", x.maximize(), 0);
        Check.due("an edit again", x.count(10), 3);
        x.undo();
        x.undo();
        Check.due("undone whole", State.edges(x), "7: ab bc! cd ef");
        Check.due("maximize without edges", new MatchingGraph().maximize(), 0);
        Check.due("maximize of 12 nodes", Check.complete(12).maximize(), 6);
        MatchingGraph y = Check.made(5, "ad,bc!,cd,be");
        Check.due("the lowest node first", y.maximize(), 1);
        Check.due("its shortest way", State.edges(y), "5: ad! bc! be cd");
        MatchingGraph lowest = Check.made(3, "ac,bc");
        lowest.maximize();
        Check.due("node 0 comes first", State.edges(lowest), "3: ac! bc");
        MatchingGraph z = Check.made(6, "bc,cd!,de,af");
        z.setEdge(0, 5, false);
        Check.due("an exposed node without a way is passed over", z.maximize(), 1);
        Check.due("behind it", State.edges(z), "6: bc! cd de!");
    }

    private static void takeFirst() {
        MatchingGraph x = Check.made(6, "ab,bc!,cd,de!,ef,af");
        Check.due("takeFirst()", x.takeFirst(), 3);
        Check.due("behind takeFirst", State.edges(x), "6: ab! af bc cd! de ef!");
        Check.due("takeFirst() again", x.takeFirst(), 0);
        Check.due("edits", x.count(10), 3);
        MatchingGraph y = Check.made(5, "ab!,cd,ce!,de");
        Check.due("some were there", y.takeFirst(), 1);
        Check.due("behind takeFirst", State.edges(y), "5: ab! cd! ce de");
        MatchingGraph z = Check.made(4, "ab!,bc,cd!");
        z.setEdge(0, 1, false);
        z.takeFirst();
        Check.due("an earlier node is matched rather than a later one", State.edges(z), "4: bc! cd");
        MatchingGraph empty = new MatchingGraph();
        Check.due("takeFirst without edges", empty.takeFirst(), 0);
        Check.due("an edit", empty.count(10), 1);
    }

    private static void undo() {
        MatchingGraph x = new MatchingGraph();
        Check.refused(x, "undo of nothing", IllegalStateException.class, x::undo);
        for (int node = 1; node <= 5; node++) {
            x.setEdge(0, node, true);
            Check.due("edits", x.count(10), Math.min(node, 4));
        }
        Check.due("undo()", x.undo(), 3);
        Check.due("behind undo", State.edges(x), "6: ab ac ad ae");
        x.setEdge(4, 5, true);
        Check.due("edits", x.count(10), 4);
        Check.due("undo()", x.undo(), 3);
        Check.due("undo()", x.undo(), 2);
        Check.due("undo()", x.undo(), 1);
        Check.due("undo()", x.undo(), 0);
        Check.due("the first edit is forgotten", State.edges(x), "6: ab");
        Check.refused(x, "undo of nothing", IllegalStateException.class, x::undo);
        for (int time = 0; time < 9; time++) {
            x.setEdge(1, 2, time % 2 == 0);
        }
        x.undo();
        Check.due("behind many edits", State.edges(x), "6: ab");
        x.undo();
        Check.due("behind many edits", State.edges(x), "6: ab bc");
        x.undo();
        Check.due("behind many edits", State.edges(x), "6: ab");
    }

    /** Each kind of edit is saved, also if it changes nothing, and undone with graph and matching. */
    private static void undoOfEach() {
        String[] names = {"setEdge", "match", "unmatch", "augment", "maximize", "takeFirst", "load", "nothing"};
        for (int kind = 0; kind < names.length; kind++) {
            MatchingGraph x = Check.made(7, "ab!,bc,cd,de!,ef,cg");
            int kept = x.count(10);
            String before = State.edges(x);
            long digest = x.digest();
            edit(x, kind);
            Check.due(names[kind] + " is an edit", x.count(10), kept + 1);
            Check.due(names[kind] + " undone", x.undo(), kept);
            Check.due("behind " + names[kind] + " undone", State.edges(x), before);
            Check.due("digest behind " + names[kind] + " undone", x.digest(), digest);
        }
    }

    private static void edit(MatchingGraph x, int kind) {
        switch (kind) {
            case 0 -> x.setEdge(0, 1, false);
            case 1 -> x.match(2, 6);
            case 2 -> x.unmatch(1);
            case 3 -> x.augment(5);
            case 4 -> x.maximize();
            case 5 -> x.takeFirst();
            case 6 -> {
                Check.type(x, "cg!,fg");
                x.load();
            }
            default -> x.setEdge(0, 1, true);
        }
    }
}
