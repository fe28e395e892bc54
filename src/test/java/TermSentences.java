/** A test for each sentence of the terms that graphs, matchings and maximum matchings rest on. */
final class TermSentences {
    private TermSentences() {
    }

    static void test(Doc doc) {
        doc.terms();
        graphs(doc);
        pathsAndComponents(doc);
        matchings(doc);
        alternatingPaths(doc);
        ways(doc);
        maximumMatchings(doc);
        parts(doc);
        proofs(doc);
        critical(doc);
        doc.says("`NONE = -1`");
        Check.due("NONE", MatchingGraph.NONE, -1);
        Check.due("it stands for no mate", new MatchingGraph().node(0, 1), MatchingGraph.NONE);
    }

    private static String letter(int node) {
        return "" + (char) ('a' + node);
    }

    private static void graphs(Doc doc) {
        doc.says("A graph has 2 to 12 nodes, numbered from 0, which are written as the letters 'a' to 'l'");
        for (int nodes = 2; nodes <= 12; nodes++) {
            MatchingGraph x = new MatchingGraph();
            int last = nodes - 1;
            Check.due("begin with " + nodes, x.begin(nodes), 6);
            Check.due("nodes", x.count(0), nodes);
            Check.due("below the first node", Check.answer(() -> x.node(-1, 0)), Check.NO_INDEX);
            Check.due("the first node", x.node(0, 0), 0);
            Check.due("the last node", x.node(last, 0), 0);
            Check.due("beyond the last node", Check.answer(() -> x.node(last + 1, 0)), Check.NO_INDEX);
            Check.type(x, "a" + letter(last));
            Check.due("the letter of the last node of " + nodes, x.firstError(), 2);
            Check.due("load", x.load(), 1);
            Check.due("the edge of this letter", x.edge(0, last, 0), 1);
            Check.type(x, "a" + letter(last + 1));
            Check.due("the letter beyond the last node of " + nodes, x.firstError(), 1);
        }
        Check.due("1 node", Check.answer(() -> new MatchingGraph().begin(1)), Check.NO_ARGUMENT);
        Check.due("13 nodes", Check.answer(() -> new MatchingGraph().begin(13)), Check.NO_ARGUMENT);

        doc.says("An edge joins two different nodes, which are adjacent then; there is at most one edge");
        MatchingGraph x = new MatchingGraph();
        x.setEdge(1, 4, true);
        Check.due("adjacent", x.edge(1, 4, 0) + x.edge(4, 1, 0), 2);
        x.setEdge(1, 4, true);
        x.setEdge(4, 1, true);
        Check.type(x, "be,be");
        Check.due("the same edge loaded", x.load(), 0);
        Check.due("one edge, however often it is added", x.count(1), 1);
        x.setEdge(4, 1, false);
        Check.due("none, once it is removed", x.count(1) + x.edge(1, 4, 0), 0);
        Check.due("a node is joined with itself", Check.answer(() -> x.setEdge(3, 3, true)), Check.NO_ARGUMENT);
        Check.due("all pairs of 12 nodes", Check.complete(12).count(1), 66);

        doc.says("The degree of a node is the number of its edges");
        MatchingGraph star = Check.made(12, "");
        for (int other = 0; other < 11; other++) {
            Check.due("degree", star.node(11, 0), other);
            star.setEdge(other, 11, true);
            Check.due("degree of the other node", star.node(other, 0), 1);
        }
        Check.due("the greatest degree", star.node(11, 0), 11);
        star.setEdge(11, 0, false);
        Check.due("one less", star.node(11, 0), 10);
        Check.due("none", star.node(0, 0), 0);
    }

    private static void pathsAndComponents(Doc doc) {
        doc.says("A path is a sequence of different nodes");
        Check.due("2 nodes", Check.made(2, "ab").way(0), 1);
        Check.due("4 nodes", Check.made(4, "ab,bc!,cd").way(0), 3);
        Check.due("12 nodes", Check.made(12, "ab,bc!,cd,de!,ef,fg!,gh,hi!,ij,jk!,kl").way(11), 11);
        MatchingGraph flower = Check.made(5, "ab,bc!,cd,de!,ce");
        Check.due("no path comes back to c", flower.reach(0, false), Check.set("bde"));
        Check.due("no path goes back from c to b", flower.reach(0, true), Check.set("acde"));
        Check.due("no way there and back", Check.made(8, "ab,bc!,cd,de!,ce,bf,gh!").way(0), 0);
        Check.due("no step without an edge", Check.made(6, "ab,bc!,de!,ef").reach(0, false), Check.set("b"));

        doc.says("A cycle is a path with at least 3 nodes whose last node is adjacent to its first one");
        Check.due("an edge", Check.made(2, "ab").oddCycle(), -1);
        Check.due("3 nodes that are not closed", Check.made(3, "ab,bc").oddCycle(), -1);
        Check.due("3 nodes", Check.made(3, "ab,bc,ac").oddCycle(), 3);
        Check.due("4 nodes", Check.made(4, "ab,bc,cd,ad").oddCycle(), -1);
        Check.due("5 nodes that are not closed", Check.made(5, "ab,bc,cd,de").oddCycle(), -1);
        Check.due("5 nodes", Check.made(5, "ab,bc,cd,de,ae").oddCycle(), 5);

        doc.says("A component is a largest set of nodes in which there is a path between any two");
        MatchingGraph x = Check.made(12, "");
        for (int node = 11; node > 0; node--) {
            Check.due("components", x.count(9), node + 1);
            x.setEdge(node, node - 1, true);
        }
        Check.due("one path through all nodes", x.count(9), 1);
        Check.due("its lowest node from the other end", x.node(11, 4), 0);
        x.setEdge(0, 11, true);
        x.setEdge(5, 6, false);
        Check.due("an edge that others go round", x.count(9), 1);
        x.setEdge(2, 1, false);
        Check.due("two parts", x.count(9), 2);
        Check.due("the lowest node of one", x.node(5, 4), 2);
        Check.due("the lowest node of the other", x.node(6, 4), 0);
    }

    private static void matchings(Doc doc) {
        doc.says("A matching is a set of edges of which no two have a node in common");
        Scene scene = new Scene(5, "ab!,bc,cd,de,ae");
        scene.refuses("match(1, 2)", Check.NO_STATE, x -> x.match(1, 2));
        scene.refuses("match(0, 4)", Check.NO_STATE, x -> x.match(0, 4));
        scene.edits("match(2, 3)", 2, " ab! ae bc cd! de", x -> x.match(2, 3));
        Check.due("loaded", State.edges(Check.made(4, "ab!,bc!,ac!,cd!")), "4: ab! ac bc cd!");

        doc.says("Its size is the number of its edges");
        MatchingGraph x = Check.made(12, "ab,cd,ef,gh,ij,kl");
        for (int size = 0; size < 6; size++) {
            Check.due("size", x.count(2), size);
            Check.due("one more", x.match(2 * size, 2 * size + 1), size + 1);
        }
        Check.due("the greatest size", x.count(2), 6);
        x.unmatch(11);
        Check.due("one less", x.count(2), 5);

        doc.says("A node is matched, with its mate, if it belongs to an edge of the matching");
        MatchingGraph one = Check.made(4, "ac!,ab,bd");
        Check.due("mate of a", one.node(0, 1), 2);
        Check.due("mate of c", one.node(2, 1), 0);
        Check.due("b has edges, but no mate", one.node(1, 1), -1);
        Check.due("so it is exposed", one.way(1), 1);
        Check.due("a is not", Check.answer(() -> one.way(0)), Check.NO_STATE);

        doc.says("There is a present matching, at first empty");
        MatchingGraph fresh = new MatchingGraph();
        Check.due("size", fresh.count(2), 0);
        for (int node = 0; node < 6; node++) {
            Check.due("mate", fresh.node(node, 1), -1);
        }
        fresh.setEdge(0, 1, true);
        Check.due("edges come without it", fresh.count(2), 0);

        doc.says("If an edge of it is removed from the graph, it is removed from the matching, too");
        Scene matched = new Scene(6, "ab!,bc,cd!,de,ef");
        matched.edits("setEdge(0, 1, false)", 1, " bc cd! de ef", y -> y.setEdge(0, 1, false));
        matched.edits("setEdge(3, 2, false)", 1, " ab! bc de ef", y -> y.setEdge(3, 2, false));
        matched.edits("an edge beside it", 1, " ab! cd! de ef", y -> y.setEdge(1, 2, false));
        matched.edits("no edge of a matched node", 0, " ab! bc cd! de ef", y -> y.setEdge(0, 3, false));
        MatchingGraph gone = Check.made(4, "ab!,cd!");
        gone.setEdge(1, 0, false);
        Check.due("size", gone.count(2), 1);
        Check.due("its nodes are exposed", gone.node(0, 1) + gone.node(1, 1), -2);
        gone.setEdge(0, 1, true);
        Check.due("the edge comes back unmatched", State.edges(gone), "4: ab cd!");
    }

    private static void alternatingPaths(Doc doc) {
        doc.says("A path from an exposed node is alternating if its first edge is not in the present matching");
        MatchingGraph long12 = Check.made(12, "ab,bc!,cd,de!,ef,fg!,gh,hi!,ij,jk!,kl");
        Check.due("even", long12.reach(0, true), Check.set("acegik"));
        Check.due("odd", long12.reach(0, false), Check.set("bdfhjl"));
        long12.unmatch(5);
        Check.due("the sixth edge is not in it, even", long12.reach(0, true), Check.set("ace"));
        Check.due("the sixth edge is not in it, odd", long12.reach(0, false), Check.set("bdf"));
        MatchingGraph second = Check.made(4, "ab,bc,cd!");
        Check.due("the second edge is not in it, even", second.reach(0, true), Check.set("a"));
        Check.due("the second edge is not in it, odd", second.reach(0, false), Check.set("b"));
        MatchingGraph third = Check.made(5, "ab,bc!,bd,de!");
        Check.due("no two edges that are not in it, even", third.reach(0, true), Check.set("ac"));
        Check.due("no two edges that are not in it, odd", third.reach(0, false), Check.set("b"));

        doc.says("It is augmenting if its last node is another exposed node");
        Check.due("another exposed node", Check.made(2, "ab").way(0), 1);
        Check.due("a matched node", Check.made(3, "ab,bc!").way(0), 0);
        Check.due("the node itself", Check.made(3, "ab,bc!,ac").way(0), 0);
        Check.due("another one behind it", Check.made(4, "ab,bc!,ac,cd").way(0), 3);
        Check.due("an exposed node that no path reaches", Check.made(4, "ab,bc!,bd").way(0), 0);

        doc.says("To augment along it means to remove those of its edges from the matching that are in it");
        Scene scene = new Scene(8, "ab,bc!,cd,ef!,gh,ac");
        scene.edits("augment(0)", 3, " ab! ac bc cd! ef! gh", x -> x.augment(0));
        scene.edits("augment(3)", 3, " ab! ac bc cd! ef! gh", x -> x.augment(3));
        scene.edits("augment(7)", 1, " ab ac bc! cd ef! gh!", x -> x.augment(7));
        new Scene(8, "ab,bc!,cd,de!,ef,fg!,gh").edits("augment along all", 7,
                " ab! bc cd! de ef! fg gh!", x -> x.augment(7));
    }

    private static String way(MatchingGraph x, int node) {
        StringBuilder text = new StringBuilder();
        for (int place = 0; place < 12 && x.wayNode(node, place) != -1; place++) {
            text.append((char) ('a' + x.wayNode(node, place)));
        }
        return text.toString();
    }

    private static void ways(Doc doc) {
        doc.says("The way of an exposed node is the shortest augmenting path from it; of several, the one that is less");
        Check.due("shorter, though greater", way(Check.made(6, "ab,bc!,cd,af"), 0), "af");
        Check.due("less at the first place", way(Check.made(4, "ad,ac"), 0), "ac");
        Check.due("greater at all later places", way(Check.made(8, "ab,bf!,fh,ac,cd!,de"), 0), "abfh");
        Check.due("less at the last place", way(Check.made(8, "ab,bc!,cg,ch"), 0), "abcg");
        Check.due("less in the middle", way(Check.made(10, "ab,bc!,ce,ef!,fg,cd,dh!,hi"), 0), "abcdhi");
        Check.due("not less from the other end", way(Check.made(8, "ab,bf!,fh,ac,cd!,de"), 4), "edca");
        Check.due("the longer way round a cycle", way(Check.made(6, "ab,bc!,cd,de!,ae,bf"), 0), "aedcbf");
        Check.due("through pairs in another order", way(Check.made(6, "ab!,ac,bf,ce!,cd,be,de"), 3), "decabf");
        Check.due("through either end of a pair, the less one", way(Check.made(6, "ab,ac,bc!,bd,ce"), 0), "abce");
        Check.due("between equal ones, to the less end", way(Check.made(6, "ac,ad,cd!,bc,de"), 0), "acde");
    }

    private static void maximumMatchings(Doc doc) {
        doc.says("A matching of the graph is maximum if no matching has a greater size");
        Check.due("no edges", Check.made(12, "").count(3), 0);
        Check.due("one edge", Check.made(12, "kl").count(3), 1);
        Check.due("one that cannot be extended is not maximum", Check.made(4, "ab,bc!,cd").count(3), 2);
        Check.due("a star", Check.made(12, "al,bl,cl,dl,el,fl,gl,hl,il,jl,kl").count(3), 1);
        Check.due("11 nodes", Check.complete(11).count(3), 5);
        Check.due("12 nodes", Check.complete(12).count(3), 6);
        Check.due("the matching may be less", Check.complete(12).count(2), 0);

        doc.says("The deficiency is the number of nodes minus 2 times the number of the graph");
        Check.due("no edges", Check.made(12, "").count(4), 12);
        Check.due("one edge", Check.made(12, "kl").count(4), 10);
        Check.due("11 nodes", Check.complete(11).count(4), 1);
        Check.due("12 nodes", Check.complete(12).count(4), 0);
        Check.due("2 nodes", Check.made(2, "").count(4), 2);

        doc.says("Maximum matchings are compared by the mates of node 0, then of node 1");
        Check.due("the least mate of node 0", first(Check.complete(4)), "badc");
        Check.due("not the least mate of a later node", first(Check.made(4, "ac,bd,ad,bc")), "cdab");
        Check.due("then the least mate of node 1", first(Check.made(5, "ae,bc,bd,cd")), "ecb-a");
        Check.due("an exposed node is greater than all", first(Check.made(3, "ac,bc")), "c-a");
        Check.due("also than the last node", first(Check.made(12, "al,bl")), "l----------a");
        Check.due("a later node is exposed", first(Check.complete(5)), "badc-");
        Check.due("node 0 is exposed in all", first(Check.made(3, "bc")), "-cb");
        Check.due("only maximum ones count", first(Check.made(4, "ab,bc,ad")), "dcba");
    }

    private static String first(MatchingGraph x) {
        StringBuilder text = new StringBuilder();
        for (int node = 0; node < x.count(0); node++) {
            text.append(x.firstMate(node) == -1 ? '-' : (char) ('a' + x.firstMate(node)));
        }
        return text.toString();
    }

    private static void parts(String edges, String want) {
        MatchingGraph x = Check.made(want.length(), edges);
        StringBuilder text = new StringBuilder();
        for (int node = 0; node < want.length(); node++) {
            text.append(x.node(node, 2));
        }
        Check.due("parts of " + edges, text.toString(), want);
    }

    private static void parts(Doc doc) {
        doc.says("Each node belongs to a part");
        parts("", "000000000000");
        parts("ab", "22");
        parts("ab,bc", "010");
        parts("ab,bc,cd", "2222");
        parts("ab,bc,ac", "000");
        parts("ab,bc,ac,cd", "2222");
        parts("ab,bc,ac,cd,de", "00010");
        parts("ab,bc,be,ef", "010022");
        parts("ab!,bc,cd!,de", "01010");
        parts("ab!,bc,bd", "0100");
    }

    private static void proofs(Doc doc) {
        doc.says("A set of nodes is a proof if the graph without these nodes has as many components with an odd number");
        for (int nodes = 2; nodes <= 5; nodes++) {
            for (int graph = 0; graph < 1 << nodes * (nodes - 1) / 2; graph++) {
                MatchingGraph x = drawn(nodes, graph);
                Check.due("proof of " + graph + " with " + nodes + " nodes", isProof(x, x.proof()), true);
            }
        }
        doc.says("(Then no matching can be greater than a maximum one.)");
        for (int graph = 0; graph < 1 << 10; graph++) {
            MatchingGraph x = drawn(5, graph);
            int set = x.proof();
            // Each odd component that no node of the set helps leaves a node exposed.
            int exposed = x.components(set, true) - Integer.bitCount(set);
            x.maximize();
            Check.due("twice the size of a matching of " + graph, 2 * x.count(2), 5 - exposed);
        }
        doc.says("The least proof is the one with the fewest nodes; of several, the one with the least bit mask");
        for (int nodes = 2; nodes <= 5; nodes++) {
            for (int graph = 0; graph < 1 << nodes * (nodes - 1) / 2; graph++) {
                MatchingGraph x = drawn(nodes, graph);
                Check.due("least proof of " + graph + " with " + nodes + " nodes", x.proof(), leastProof(x));
            }
        }
        Check.due("of a and d", Check.made(6, "ab,ac,ad,de,df").proof(), Check.set("a"));
        Check.due("of l and k", Check.made(12, "al,bl,kl,ck,dk,ef,gh,ij").proof(), Check.set("k"));
        Check.due("h, not ab", Check.made(8, "ab,ac,ad,af,bc,bf,bh,eh,gh").proof(), Check.set("h"));
        Check.due("i, not cd", Check.made(9, "ad,bi,cf,cg,ci,dh,di,ei").proof(), Check.set("i"));
    }

    /** A graph whose pairs of nodes, in their order, are joined if their bit is set. */
    private static MatchingGraph drawn(int nodes, int pairs) {
        MatchingGraph x = Check.made(nodes, "");
        int bit = 0;
        for (int one = 0; one < nodes; one++) {
            for (int other = one + 1; other < nodes; other++) {
                if ((pairs >> bit & 1) != 0) {
                    x.setEdge(one, other, true);
                }
                bit++;
            }
        }
        return x;
    }

    private static boolean isProof(MatchingGraph x, int set) {
        return x.components(set, true) == Integer.bitCount(set) + x.count(4);
    }

    private static int leastProof(MatchingGraph x) {
        int nodes = x.count(0);
        for (int size = 0; size <= nodes; size++) {
            for (int set = 0; set < 1 << nodes; set++) {
                if (Integer.bitCount(set) == size && isProof(x, set)) {
                    return set;
                }
            }
        }
        return -1;
    }

    private static void critical(Doc doc) {
        doc.says("The graph is critical if for each node the graph without it has a matching");
        Check.due("2 nodes", Check.made(2, "ab").count(8), 0);
        Check.due("3 nodes in a cycle", Check.made(3, "ab,bc,ac").count(8), 1);
        Check.due("not for node 1", Check.made(3, "ab,bc").count(8), 0);
        Check.due("not for node 0", Check.made(3, "ab,ac").count(8), 0);
        Check.due("not for node 2", Check.made(3, "ac,bc").count(8), 0);
        Check.due("an even number of nodes", Check.complete(4).count(8), 0);
        Check.due("no edges", Check.made(11, "").count(8), 0);
        Check.due("11 nodes in a cycle", Check.made(11, "ab,bc,cd,de,ef,fg,gh,hi,ij,jk,ak").count(8), 1);
        Check.due("11 nodes in a path", Check.made(11, "ab,bc,cd,de,ef,fg,gh,hi,ij,jk").count(8), 0);
        Check.due("a triangle and an edge apart", Check.made(5, "ab,bc,ac,de").count(8), 0);
    }
}
