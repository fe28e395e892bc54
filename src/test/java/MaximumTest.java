/** Promises 18 to 21: firstMate, proof, components, ifChanged. */
public final class MaximumTest {
    public static void main(String[] args) {
        firstMate();
        proof();
        components();
        ifChanged();
        Check.end("MaximumTest");
    }

    private static void first(String what, MatchingGraph x, String mates) {
        StringBuilder text = new StringBuilder();
        for (int node = 0; node < x.count(0); node++) {
            int mate = x.firstMate(node);
            text.append(mate == MatchingGraph.NONE ? '-' : (char) ('a' + mate));
        }
        Check.due(what, text.toString(), mates);
    }

    private static void firstMate() {
        first("no edges", Check.made(4, ""), "----");
        first("the present matching does not matter", Check.made(4, "ab,bc!,cd,ad"), "badc");
        first("a maximum one is not greedy", Check.made(4, "ab,ac,bd"), "cdab");
        first("an exposed node counts as greatest", Check.made(3, "ab,bc"), "ba-");
        first("the first one of K5", Check.complete(5), "badc-");
        first("K12", Check.complete(12), "badcfehgjilk");
        first("node 0 exposed if it must be", Check.made(6, "ab,bc,bd,ef"), "ba--fe");
        first("exposed early for the sake of size", Check.made(5, "bc,cd,de"), "-cbed");
        MatchingGraph x = Check.made(4, "ab");
        Check.refused(x, "firstMate of no node", IndexOutOfBoundsException.class, () -> x.firstMate(4));
        Check.refused(x, "firstMate of no node", IndexOutOfBoundsException.class, () -> x.firstMate(-1));
        first("one edge", x, "ba--");
        x.setEdge(0, 1, false);
        first("behind a change", x, "----");
        x.undo();
        first("behind undo", x, "ba--");
    }

    private static void proof() {
        Check.due("no edges", new MatchingGraph().proof(), 0);
        Check.due("perfect", Check.made(4, "ab,bc,cd").proof(), 0);
        Check.due("a path of 3", Check.made(3, "ab,bc").proof(), 0);
        Check.due("a star", Check.made(4, "ab,bc,bd").proof(), Check.set("b"));
        Check.due("two stars", Check.made(8, "ab,ac,ad,eh,fh,gh").proof(), Check.set("ah"));
        Check.due("K(2,4)", Check.made(6, "ae,be,ce,de,af,bf,cf,df").proof(), Check.set("ef"));
        Check.due("a star of triangles", Check.made(10, "ab,bc,ac,de,ef,df,gh,hi,gi,aj,dj,gj").proof(),
                Check.set("j"));
        Check.due("the least of several", Check.made(6, "ab,ac,ad,de,df").proof(), Check.set("a"));
        Check.due("K12", Check.complete(12).proof(), 0);
        Check.due("12 nodes without edges", Check.made(12, "").proof(), 0);
        MatchingGraph x = Check.made(12, "");
        for (int one = 7; one < 12; one++) {
            for (int other = 0; other < 7; other++) {
                x.setEdge(one, other, true);
            }
        }
        Check.due("K(5,7)", x.proof(), Check.set("hijkl"));
    }

    private static void components() {
        MatchingGraph x = Check.made(7, "ab,bc,cd,de,fg");
        Check.due("all", x.components(0, false), 2);
        Check.due("odd", x.components(0, true), 1);
        Check.due("without c", x.components(Check.set("c"), false), 3);
        Check.due("without c, odd", x.components(Check.set("c"), true), 0);
        Check.due("without b and d", x.components(Check.set("bd"), false), 4);
        Check.due("without b and d, odd", x.components(Check.set("bd"), true), 3);
        Check.due("without all", x.components(127, false), 0);
        Check.due("without all, odd", x.components(127, true), 0);
        for (int set : new int[] {128, 129, -1, 1 << 12, 1 << 30, Integer.MIN_VALUE, Integer.MAX_VALUE}) {
            Check.refused(x, "components(" + set + ")", IllegalArgumentException.class,
                    () -> x.components(set, false));
            Check.refused(x, "components(" + set + "), odd", IllegalArgumentException.class,
                    () -> x.components(set, true));
        }
        Check.due("12 nodes", Check.made(12, "").components(4094, true), 1);
    }

    private static void ifChanged() {
        MatchingGraph x = Check.made(6, "ab,bc!,cd,ef");
        String before = State.of(x);
        Check.due("an edge that all have", x.ifChanged(5, 4), 2);
        Check.due("an edge that none has", x.ifChanged(1, 2), 3);
        Check.due("an edge that is needed", x.ifChanged(0, 1), 2);
        Check.due("a new edge is of no use", x.ifChanged(0, 2), 3);
        Check.due("nothing is changed", State.of(x), before);
        MatchingGraph y = Check.made(5, "ab,bc");
        Check.due("an edge that some have", y.ifChanged(0, 1), 1);
        Check.due("a new edge is of use", y.ifChanged(4, 3), 2);
        Check.due("a new edge is of use", y.ifChanged(2, 3), 2);
        Check.due("a new edge is of none", y.ifChanged(1, 4), 1);
        Check.due("a new edge is of none", y.ifChanged(0, 2), 1);
        Check.refused(y, "the same", IllegalArgumentException.class, () -> y.ifChanged(2, 2));
        Check.refused(y, "no node", IndexOutOfBoundsException.class, () -> y.ifChanged(0, 5));
        Check.refused(y, "no node", IndexOutOfBoundsException.class, () -> y.ifChanged(-1, 0));
        Check.refused(y, "no nodes", IndexOutOfBoundsException.class, () -> y.ifChanged(5, 5));
    }
}
