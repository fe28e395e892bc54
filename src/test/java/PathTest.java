/** Promises 14 to 17: way, wayNode, reach, oddCycle. */
public final class PathTest {
    public static void main(String[] args) {
        way();
        wayThroughCycle();
        wrongWays();
        reach();
        oddCycle();
        Check.end("PathTest");
    }

    private static String wayOf(MatchingGraph x, int node) {
        StringBuilder text = new StringBuilder();
        int length = x.way(node);
        for (int place = 0; place <= 12; place++) {
            int next = x.wayNode(node, place);
            if (next != MatchingGraph.NONE) {
                text.append((char) ('a' + next));
            }
        }
        Check.due("places of the way of " + node, text.length(), length == 0 ? 0 : length + 1);
        return text.toString();
    }

    private static void way() {
        Check.due("an edge between exposed nodes", wayOf(Check.made(4, "ad,ac,ab"), 0), "ab");
        Check.due("the same from its end", wayOf(Check.made(4, "ad,ac,ab"), 3), "da");
        Check.due("the shorter one, not the less one", wayOf(Check.made(6, "ab,bc!,cd,af"), 0), "af");
        Check.due("the less one", wayOf(Check.made(8, "ad,de!,ef,ab,bc!,cg"), 0), "abcg");
        Check.due("the less one at a later place", wayOf(Check.made(8, "ab,bc!,cg,cf"), 0), "abcf");
        Check.due("through three pairs", wayOf(Check.made(8, "ab,bc!,cd,de!,ef,fg!,gh"), 7), "hgfedcba");
        Check.due("the longest", wayOf(Check.made(12,
                "ab,bc!,cd,de!,ef,fg!,gh,hi!,ij,jk!,kl"), 0), "abcdefghijkl");
        Check.due("none without edges", wayOf(new MatchingGraph(), 3), "");
        Check.due("none to another part", wayOf(Check.made(6, "ab!,bc,cd!,ef"), 0 + 4), "ef");
        Check.due("none at a single exposed node", wayOf(Check.made(5, "ab!,bc,cd!,de"), 4), "");
        Check.due("none back to the node itself", wayOf(Check.made(4, "ab,bc!,ac"), 0), "");
        Check.due("no path turns back in a pair", wayOf(Check.made(4, "ab,bc!,bd"), 0), "");
    }

    /** The only augmenting path goes the long way round an odd cycle, which a plain search misses. */
    private static void wayThroughCycle() {
        MatchingGraph flower = Check.made(8, "ab,bc!,cd,de!,ce,df,fg!,gh");
        Check.due("round the cycle", wayOf(flower, 0), "abcedfgh");
        Check.due("round the cycle from the other end", wayOf(flower, 7), "hgfdecba");
        MatchingGraph cycle = Check.made(6, "ab,bc!,cd,de!,ae,bf");
        Check.due("round a cycle of 5", wayOf(cycle, 0), "aedcbf");
        MatchingGraph twice = Check.made(10, "ab,bc!,bd,cd,de!,cf,ef,fg!,gh,hi!,ij,gi");
        Check.due("cycles one behind the other", wayOf(twice, 0), Reference.of(twice).wayText(0));
    }

    private static void wrongWays() {
        MatchingGraph x = Check.made(5, "ab!,bc,de");
        Check.refused(x, "way of a matched node", IllegalStateException.class, () -> x.way(0));
        Check.refused(x, "way of no node", IndexOutOfBoundsException.class, () -> x.way(5));
        Check.refused(x, "way of no node", IndexOutOfBoundsException.class, () -> x.way(-1));
        Check.refused(x, "wayNode of a matched node", IllegalStateException.class, () -> x.wayNode(1, 0));
        Check.refused(x, "wayNode of no node", IndexOutOfBoundsException.class, () -> x.wayNode(5, 0));
        Check.refused(x, "wayNode of no node", IndexOutOfBoundsException.class, () -> x.wayNode(-1, 99));
        Check.due("wayNode(3, 0)", x.wayNode(3, 0), 3);
        Check.due("wayNode(3, 1)", x.wayNode(3, 1), 4);
        Check.due("wayNode(2, 0) without a way", x.wayNode(2, 0), -1);
        for (int place : new int[] {2, 3, 11, 12, 99, -1, Integer.MAX_VALUE, Integer.MIN_VALUE}) {
            Check.due("wayNode(3, " + place + ")", x.wayNode(3, place), -1);
        }
        Check.due("looking is no edit", x.count(10), 1);
    }

    private static void reach(String what, MatchingGraph x, int node, String even, String odd) {
        Check.due(what + ", even", x.reach(node, true), Check.set(even));
        Check.due(what + ", odd", x.reach(node, false), Check.set(odd));
    }

    private static void reach() {
        reach("alone", new MatchingGraph(), 5, "f", "");
        reach("matched", Check.made(4, "ab!,bc"), 0, "", "");
        reach("a path", Check.made(7, "ab,bc!,cd,de!,ef"), 0, "ace", "bdf");
        reach("behind an exposed node", Check.made(5, "ab,bc,cd!"), 0, "a", "b");
        reach("a triangle", Check.made(5, "ab,bc!,ac,cd"), 0, "abc", "bcd");
        reach("a flower", Check.made(8, "ab,bc!,cd,de!,ce,df,fg!,gh"), 0, "acdeg", "bdefh");
        reach("no way twice through a node", Check.made(6, "ab,bc!,bd,de!,be"), 0, "ac", "b");
        MatchingGraph x = Check.made(6, "ab!");
        Check.refused(x, "reach of no node", IndexOutOfBoundsException.class, () -> x.reach(6, true));
        Check.refused(x, "reach of no node", IndexOutOfBoundsException.class, () -> x.reach(-1, false));
    }

    private static void oddCycle() {
        Check.due("no edges", new MatchingGraph().oddCycle(), -1);
        Check.due("a tree", Check.made(6, "ab,bc,bd,de,df").oddCycle(), -1);
        Check.due("a triangle", Check.made(6, "ab,bc,cd,de,ef,df").oddCycle(), 3);
        Check.due("an even cycle", Check.made(6, "ab,bc,cd,de,ef,af").oddCycle(), -1);
        Check.due("5, not 4", Check.made(8, "ab,bc,cd,ad,de,ef,fg,gh,dh").oddCycle(), 5);
        Check.due("7", Check.made(7, "ab,bc,cd,de,ef,fg,ag").oddCycle(), 7);
        Check.due("9", Check.made(12, "bc,cd,de,ef,fg,gh,hi,ij,bj").oddCycle(), 9);
        Check.due("11", Check.made(12, "bc,cd,de,ef,fg,gh,hi,ij,jk,kl,bl").oddCycle(), 11);
        Check.due("two that touch make no odd one", Check.made(7, "ab,bc,cd,ad,de,ef,fg,dg").oddCycle(), -1);
        Check.due("K2", Check.made(2, "ab").oddCycle(), -1);
        Check.due("K12", Check.complete(12).oddCycle(), 3);
    }
}
