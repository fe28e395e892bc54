/** Promises 22 to 27: node, edge, count, difference, meanUse, digest. */
public final class StateTest {
    public static void main(String[] args) {
        node();
        edge();
        count();
        critical();
        difference();
        meanUse();
        digest();
        Check.end("StateTest");
    }

    private static void property(MatchingGraph x, int what, int... want) {
        String edges = State.edges(x);
        for (int node = 0; node < want.length; node++) {
            Check.due("node(" + node + ", " + what + ") of " + edges, x.node(node, what), want[node]);
        }
    }

    private static void node() {
        MatchingGraph x = Check.made(7, "ab!,bc,bd,ef");
        property(x, 0, 1, 3, 1, 1, 1, 1, 0);
        property(x, 1, 1, 0, -1, -1, -1, -1, -1);
        property(x, 2, 0, 1, 0, 0, 2, 2, 0);
        property(x, 3, 2, 0, 2, 2, 0, 0, 3);
        property(x, 4, 0, 0, 0, 0, 4, 4, 6);
        property(Check.made(6, "bf,de"), 4, 0, 1, 2, 3, 3, 1);
        property(Check.made(4, "ab,bc,ac"), 2, 0, 0, 0, 0);
        property(Check.made(5, "ab,bc,ac,cd"), 2, 2, 2, 2, 2, 0);
        property(Check.complete(11), 3, 945, 945, 945, 945, 945, 945, 945, 945, 945, 945, 945);
        for (int what : new int[] {-1, 5, Integer.MIN_VALUE, Integer.MAX_VALUE}) {
            Check.refused(x, "node(0, " + what + ")", IllegalArgumentException.class, () -> x.node(0, what));
            Check.refused(x, "node(7, " + what + ")", IndexOutOfBoundsException.class, () -> x.node(7, what));
        }
        for (int what = 0; what <= 4; what++) {
            int asked = what;
            Check.refused(x, "node(-1, " + what + ")", IndexOutOfBoundsException.class, () -> x.node(-1, asked));
            Check.refused(x, "node(7, " + what + ")", IndexOutOfBoundsException.class, () -> x.node(7, asked));
        }
    }

    private static void edge() {
        MatchingGraph x = Check.made(5, "ab!,bc,cd,de");
        int[][] want = {{0, 1, 1, 1, 2}, {1, 0, 1, 1, 2}, {1, 2, 1, 0, 1}, {2, 3, 1, 0, 1}, {4, 3, 1, 0, 2},
            {0, 2, 0, 0, 0}, {0, 4, 0, 0, 0}, {2, 2, 0, 0, 0}, {0, 0, 0, 0, 0}};
        for (int[] row : want) {
            for (int what = 0; what <= 2; what++) {
                Check.due("edge(" + row[0] + ", " + row[1] + ", " + what + ")",
                        x.edge(row[0], row[1], what), row[2 + what]);
            }
        }
        Check.due("K12", Check.complete(12).edge(3, 9, 2), 945);
        for (int what : new int[] {-1, 3, Integer.MIN_VALUE, Integer.MAX_VALUE}) {
            Check.refused(x, "edge(0, 1, " + what + ")", IllegalArgumentException.class, () -> x.edge(0, 1, what));
            Check.refused(x, "edge(0, 0, " + what + ")", IllegalArgumentException.class, () -> x.edge(0, 0, what));
            Check.refused(x, "edge(0, 5, " + what + ")", IndexOutOfBoundsException.class,
                    () -> x.edge(0, 5, what));
        }
        Check.refused(x, "edge(5, 0, 0)", IndexOutOfBoundsException.class, () -> x.edge(5, 0, 0));
        Check.refused(x, "edge(0, -1, 2)", IndexOutOfBoundsException.class, () -> x.edge(0, -1, 2));
        Check.refused(x, "edge(9, 9, 2)", IndexOutOfBoundsException.class, () -> x.edge(9, 9, 2));
    }

    private static void counts(MatchingGraph x, int... want) {
        String edges = State.edges(x);
        for (int what = 0; what < want.length; what++) {
            Check.due("count(" + what + ") of " + edges, x.count(what), want[what]);
        }
    }

    private static void count() {
        counts(new MatchingGraph(), 6, 0, 0, 0, 6, 1, 0, 0, 0, 6, 0);
        counts(Check.made(7, "ab!,bc,cd,ef,fg"), 7, 5, 1, 3, 1, 2, 2, 1, 0, 2, 1);
        counts(Check.made(5, "ab,bc,ac,cd!"), 5, 4, 1, 2, 1, 1, 2, 2, 0, 2, 1);
        counts(Check.complete(11), 11, 55, 0, 5, 1, 10395, 0, 0, 1, 1, 4);
        counts(Check.complete(12), 12, 66, 0, 6, 0, 10395, 0, 0, 0, 1, 4);
        counts(Check.made(2, "ab"), 2, 1, 0, 1, 0, 1, 1, 0, 0, 1, 1);
        MatchingGraph x = Check.made(3, "ab!");
        for (int what : new int[] {-1, 11, Integer.MIN_VALUE, Integer.MAX_VALUE}) {
            Check.refused(x, "count(" + what + ")", IllegalArgumentException.class, () -> x.count(what));
        }
    }

    private static void critical() {
        Check.due("a triangle", Check.made(3, "ab,bc,ac").count(8), 1);
        Check.due("a path of 3", Check.made(3, "ab,bc").count(8), 0);
        Check.due("a path of 3 with node 0 amidst", Check.made(3, "ab,ac").count(8), 0);
        Check.due("a cycle of 5", Check.made(5, "ab,bc,cd,de,ae").count(8), 1);
        Check.due("a cycle of 4", Check.made(4, "ab,bc,cd,ad").count(8), 0);
        Check.due("two triangles with a node in common", Check.made(5, "ab,bc,ac,cd,de,ce").count(8), 1);
        Check.due("a triangle and one alone", Check.made(4, "ab,bc,ac").count(8), 0);
        Check.due("a triangle with two more", Check.made(5, "ab,bc,ac,cd,de").count(8), 0);
        Check.due("2 nodes without an edge", Check.made(2, "").count(8), 0);
    }

    private static void difference() {
        MatchingGraph x = Check.made(12, "ab,bc!,cd,ad!,ef,fg!,hi,ij,kl!");
        Check.due("cycles", x.difference(0), 1);
        Check.due("paths", x.difference(1), 2);
        MatchingGraph same = Check.made(6, "ab!,cd!,bc");
        Check.due("no cycles", same.difference(0), 0);
        Check.due("no paths", same.difference(1), 0);
        MatchingGraph two = Check.made(8, "ab,bc!,cd,ad!,ef,fg!,gh,eh!");
        Check.due("two cycles", two.difference(0), 2);
        Check.due("no paths", two.difference(1), 0);
        MatchingGraph six = Check.made(6, "ab,bc!,cd,de!,ef,af!");
        Check.due("a cycle of 6", six.difference(0), 1);
        Check.due("no edges", new MatchingGraph().difference(1), 0);
        for (int what : new int[] {-1, 2, Integer.MIN_VALUE, Integer.MAX_VALUE}) {
            Check.refused(x, "difference(" + what + ")", IllegalArgumentException.class, () -> x.difference(what));
        }
    }

    private static void meanUse() {
        Check.due("no edges", new MatchingGraph().meanUse(), 0.0);
        Check.due("one edge", Check.made(2, "ab").meanUse(), 1.0);
        Check.due("a triangle", Check.made(3, "ab,bc,ac").meanUse(), 3.0 / 9);
        Check.due("a path of 4", Check.made(4, "ab,bc,cd").meanUse(), 2.0 / 3);
        Check.due("K11", Check.complete(11).meanUse(), 5 * 10395.0 / (55 * 10395));
        Check.due("K12", Check.complete(12).meanUse(), 6 * 10395.0 / (66 * 10395));
    }

    private static long hash(long... values) {
        long hash = 2003;
        for (long value : values) {
            hash = 31 * hash + value;
        }
        return hash;
    }

    private static void digest() {
        MatchingGraph x = Check.made(2, "");
        Check.type(x, "a~");
        Check.due("2 nodes without an edge", x.digest(), hash(
                2, 0, 0, 0, 2, 1, 0, 0, 0, 2, 0,
                0, -1, 0, 1, 0, -1, 1, 0, 0,
                0, -1, 0, 1, 1, -1, 2, 0, 0,
                0, 0, 0, 0, -1, 0, 0, 2, 97, 126));
        MatchingGraph y = Check.made(3, "ab,bc!");
        Check.due("a path of 3", y.digest(), hash(
                3, 2, 1, 1, 1, 2, 0, 0, 0, 1, 1,
                1, -1, 0, 1, 0, 1, 5, 2, 0,
                2, 2, 1, 0, 0, 0, 0, 0,
                1, 1, 0, 1, 0, -1, 0, 0,
                1, 0, 1, 0, 0, 0, 1, 1, 1,
                0, -1, 0, 1, 0));
        long before = y.digest();
        Check.due("digest changes nothing", y.digest(), before);
        y.append(' ');
        Check.due("the buffer counts", y.digest() == before, false);
    }
}
