/** A test for each sentence of the terms on texts, and of the promises 4 to 7. */
final class InputSentences {
    /** 20 edges in 59 characters, the most that the buffer can hold. */
    private static final String MOST_EDGES = "ab,bc,cd,de,ef,fg,gh,hi,ij,jk,kl,al,ac,ad,ae,af,ag,ah,ai,aj";

    private InputSentences() {
    }

    static void test(Doc doc) {
        doc.terms();
        buffer(doc);
        texts(doc);
        edges(doc);
        errors(doc);
        complete(doc);
        doc.promise(4);
        append(doc);
        refusedCharacters(doc);
        doc.promise(5);
        clearInput(doc);
        doc.promise(6);
        firstError(doc);
        doc.promise(7);
        load(doc);
        marked(doc);
        loadCounts(doc);
        refusedLoads(doc);
    }

    private static String times(String part, int times) {
        return part.repeat(times);
    }

    private static MatchingGraph typed(int nodes, String text) {
        MatchingGraph x = Check.made(nodes, "");
        Check.type(x, text);
        return x;
    }

    /** Tests where the first error is; a text without one that is complete is loaded, others are not. */
    private static void reads(int nodes, String text, int error, boolean complete) {
        String name = "'" + text + "' with " + nodes + " nodes";
        Check.due("the first error of " + name, typed(nodes, text).firstError(), error);
        boolean loads = !Check.NO_ARGUMENT.equals(Check.answer(typed(nodes, text)::load));
        Check.due(name + " is complete", loads, complete);
    }

    private static void buffer(Doc doc) {
        doc.says("The input buffer has at most 60 characters");
        MatchingGraph x = typed(6, times("a", 58));
        Check.due("the 59th", x.append('b'), 59);
        Check.due("the 60th", x.append('c'), 60);
        Check.due("the 61st", Check.answer(() -> x.append('d')), Check.NO_STATE);
        Check.due("60 are there", x.clearInput(), 60);
        MatchingGraph whole = typed(12, MOST_EDGES + "!");
        Check.due("all 60 are read", whole.firstError(), 60);
        Check.due("all 60 are loaded", whole.load(), 20);
        Check.due("the last one is loaded", whole.edge(0, 9, 1), 1);
    }

    private static void texts(Doc doc) {
        doc.says("A text of edges is one or more edges separated by \",\"");
        reads(6, "", 0, false);
        reads(6, "ab", 2, true);
        reads(6, "ab,cd", 5, true);
        reads(6, "ab,cd,ef", 8, true);
        reads(6, ",", 0, false);
        reads(6, ",ab", 0, false);
        reads(6, "ab,", 3, false);
        reads(6, "ab,,cd", 3, false);
        reads(6, "abcd", 2, false);
        reads(6, "ab;cd", 2, false);
        reads(6, "ab cd", 2, false);
        reads(6, "ab,cd,", 6, false);
    }

    private static void edges(Doc doc) {
        doc.says("the lower one first (so the letter of the last node cannot be the first one), possibly followed by");
        for (int nodes = 2; nodes <= 12; nodes++) {
            char last = (char) ('a' + nodes - 1);
            char before = (char) (last - 1);
            char behind = (char) (last + 1);
            reads(nodes, "" + last, 0, false);
            reads(nodes, "" + before, 1, false);
            reads(nodes, "" + before + last, 2, true);
            reads(nodes, "" + last + before, 0, false);
            reads(nodes, "" + before + before, 1, false);
            reads(nodes, "" + before + behind, 1, false);
            reads(nodes, "" + last + behind, 0, false);
            reads(nodes, "" + behind, 0, false);
        }
        reads(6, "ba", 1, false);
        reads(6, "aa", 1, false);
        reads(6, "ab", 2, true);
        reads(6, "ca", 1, false);
        reads(6, "cb", 1, false);
        reads(6, "cc", 1, false);
        reads(6, "cd", 2, true);
        reads(6, "ab!", 3, true);
        reads(6, "ab!!", 3, false);
        reads(6, "a!", 1, false);
        reads(6, "a!b", 1, false);
        reads(6, "!ab", 0, false);
        reads(6, "ab,!", 3, false);
        reads(6, "ab!,cd!", 7, true);
        reads(6, "ab!cd", 3, false);
    }

    private static void errors(Doc doc) {
        doc.says("The buffer is read from left to right, and a character is a syntax error");
        String allowedFirst = "abcde";
        String allowedSecond = "cdef";
        String allowedThird = "!,";
        for (int code = 32; code <= 126; code++) {
            String sign = "" + (char) code;
            reads(6, sign, allowedFirst.contains(sign) ? 1 : 0, false);
            reads(6, "b" + sign, allowedSecond.contains(sign) ? 2 : 1, allowedSecond.contains(sign));
            reads(6, "bc" + sign, allowedThird.contains(sign) ? 3 : 2, sign.equals("!"));
            reads(6, "bc!" + sign, sign.equals(",") ? 4 : 3, false);
            reads(6, "bc," + sign, allowedFirst.contains(sign) ? 4 : 3, false);
            reads(6, "bc!," + sign, allowedFirst.contains(sign) ? 5 : 4, false);
        }
        reads(6, "ba,zz,!", 1, false);
        reads(6, "ab,?,ba", 3, false);
        MatchingGraph x = typed(6, "de,ef,fg");
        int[] errors = {0, 0, 0, 3, 6, 8, 8};
        for (int nodes = 2; nodes <= 8; nodes++) {
            x.begin(nodes);
            Check.due("read with " + nodes + " nodes", x.firstError(), errors[nodes - 2]);
        }
    }

    private static void complete(Doc doc) {
        doc.says("A buffer without a syntax error is complete if a \",\" could come next");
        reads(6, "", 0, false);
        reads(6, "a", 1, false);
        reads(6, "ab", 2, true);
        reads(6, "ab!", 3, true);
        reads(6, "ab,", 3, false);
        reads(6, "ab,c", 4, false);
        reads(6, "ab,cd", 5, true);
        reads(6, "ab!x", 3, false);
        reads(6, "ab,x,cd", 3, false);
        reads(6, "x,ab", 0, false);
        // The rules decide, not the room that is left in the buffer.
        reads(12, MOST_EDGES, 59, true);
        reads(12, MOST_EDGES + "!", 60, true);
        reads(12, MOST_EDGES + ",", 60, false);
        reads(12, MOST_EDGES.substring(0, 56) + "!,ai", 60, true);
        reads(12, MOST_EDGES.substring(0, 57) + "a!", 58, false);
    }

    private static void append(Doc doc) {
        doc.says("Appends a character to the input buffer");
        MatchingGraph x = new MatchingGraph();
        MatchingGraph y = new MatchingGraph();
        for (char code : "ef!,ab".toCharArray()) {
            x.append(code);
        }
        Check.due("they are read in their order", x.load(), 2);
        Check.due("what they say", State.edges(x), "6: ab ef!");
        y.append('a');
        Check.due("another object has a buffer of its own", new MatchingGraph().clearInput(), 0);
        Check.due("no edit", y.count(10), 0);
        Check.due("no edge", State.edges(y), "6:");

        doc.says("`code`: the character code");
        for (int code = 32; code <= 126; code++) {
            MatchingGraph z = Check.made(2, "");
            long empty = z.digest();
            z.append(code);
            // The empty buffer ends the hash with its length; this one with its length and a code.
            Check.due("digest behind code " + code, z.digest(), 31 * (empty + 1) + code);
        }

        doc.says("Returns the new length of the buffer");
        MatchingGraph z = new MatchingGraph();
        for (int length = 1; length <= 60; length++) {
            Check.due("length", z.append(31 + length), length);
        }
        z.clearInput();
        Check.due("the first one behind clearInput", z.append('a'), 1);
        Check.due("the second one", z.append('b'), 2);
        z.load();
        Check.due("the first one behind load", z.append('a'), 1);
    }

    private static void refusedCharacters(Doc doc) {
        Scene scene = new Scene(5, "ab!,bc,cd,de,ae", "ab,x");
        Scene full = new Scene(5, "ab!,bc,cd,de,ae", times("ab,", 20));
        int[] wrong = {31, 127, 30, 128, 0, 1, -1, 10, 13, 255, 256 + 'a', 65536 + 'a', -256 + 'a', Integer.MIN_VALUE,
            Integer.MIN_VALUE + 'a', Integer.MAX_VALUE};
        doc.says("Throws `IllegalArgumentException` if code is not 32 to 126");
        for (int code : wrong) {
            scene.refuses("append(" + code + ")", Check.NO_ARGUMENT, x -> x.append(code));
            full.refuses("append(" + code + ") to 60", Check.NO_ARGUMENT, x -> x.append(code));
            new Scene(2, "ab").refuses("append(" + code + ") to none", Check.NO_ARGUMENT, x -> x.append(code));
        }
        for (int code : new int[] {32, 33, 125, 126}) {
            Check.due("append(" + code + ")", Check.answer(() -> new MatchingGraph().append(code)), 1);
        }

        doc.says("Throws `IllegalStateException` if the buffer has 60 characters");
        for (int code : new int[] {32, 33, 'a', 125, 126}) {
            full.refuses("append(" + code + ") to 60", Check.NO_STATE, x -> x.append(code));
            MatchingGraph nearly = typed(6, times("a", 59));
            Check.due("append(" + code + ") to 59", Check.answer(() -> nearly.append(code)), 60);
            Check.due("append(" + code + ") to 60 then", Check.answer(() -> nearly.append(code)), Check.NO_STATE);
        }
        MatchingGraph room = typed(6, times("a", 60));
        room.clearInput();
        Check.due("there is room again", Check.answer(() -> room.append('a')), 1);
    }

    private static void clearInput(Doc doc) {
        doc.says("Clears the input buffer");
        MatchingGraph x = Check.made(4, "ab!,bc");
        long before = x.digest();
        Check.type(x, "cd!");
        x.clearInput();
        Check.due("all is as before", x.digest(), before);
        Check.due("there is nothing to load", Check.answer(x::load), Check.NO_ARGUMENT);
        x.append('c');
        Check.due("nothing of it comes back", x.firstError(), 1);
        Check.due("no edit", x.count(10), 1);

        doc.says("Returns the length that it had");
        for (int length : new int[] {0, 1, 2, 59, 60}) {
            MatchingGraph y = typed(6, times("x", length));
            Check.due("clearInput", y.clearInput(), length);
            Check.due("clearInput again", y.clearInput(), 0);
        }
    }

    private static void firstError(Doc doc) {
        doc.says("Finds the first syntax error of the buffer");
        new Scene(6, "ab!,bc,cd,de,ef", "ab,xx,ba").answers("firstError", 3, MatchingGraph::firstError);
        new Scene(6, "ab!,bc,cd,de,ef", "ab,cd!").answers("firstError", 6, MatchingGraph::firstError);

        doc.says("Returns the index of the first character that is a syntax error; the length of the buffer if there is none");
        Check.due("an empty buffer", typed(6, "").firstError(), 0);
        Check.due("one character, an error", typed(6, "?").firstError(), 0);
        Check.due("one character, none", typed(6, "a").firstError(), 1);
        for (int place = 0; place < 60; place++) {
            String text = MOST_EDGES + "!";
            String wrong = text.substring(0, place) + "?" + text.substring(place + 1);
            Check.due("an error at " + place, typed(12, wrong).firstError(), place);
            Check.due("an error at the end, " + place, typed(12, wrong.substring(0, place + 1)).firstError(), place);
            Check.due("none before it", typed(12, text.substring(0, place)).firstError(), place);
            Check.due("none up to " + place, typed(12, text.substring(0, place + 1)).firstError(), place + 1);
        }
        Check.due("60 characters, none", typed(12, MOST_EDGES + ",").firstError(), 60);
        Check.due("60 characters, the last an error", typed(12, MOST_EDGES + "a").firstError(), 59);
    }

    private static void load(Doc doc) {
        doc.says("Adds the edges in the buffer, one after the other, and clears the buffer");
        new Scene(5, "ab!,bc", "de,ab,cd!").edits("load", 2, " ab! bc cd! de", MatchingGraph::load);
        new Scene(5, "ab!,bc", "ab").edits("load of an edge that stays", 0, " ab! bc", MatchingGraph::load);
        new Scene(5, "ab!,bc", "bc,bc").edits("load of it twice", 0, " ab! bc", MatchingGraph::load);
        new Scene(2, "", "ab").edits("load of the only edge", 1, " ab", MatchingGraph::load);
        MatchingGraph x = typed(12, MOST_EDGES);
        x.load();
        Check.due("the most edges", State.edges(x), "12: ab ac ad ae af ag ah ai aj al bc cd de ef fg gh hi ij jk kl");
        Check.due("the buffer is empty", x.clearInput(), 0);
        Check.due("there is no error then", x.firstError(), 0);
        Check.due("a second load", Check.answer(x::load), Check.NO_ARGUMENT);
    }

    private static void marked(Doc doc) {
        doc.says("An edge with \"!\" (also one that was there already) is added to the matching, too, if both");
        new Scene(4, "", "ab!").edits("a new edge", 1, " ab!", MatchingGraph::load);
        new Scene(4, "ab", "ab!").edits("one that was there", 0, " ab!", MatchingGraph::load);
        new Scene(4, "", "ab,ab!").edits("one that came before", 1, " ab!", MatchingGraph::load);
        new Scene(4, "", "ab!,ab").edits("one that comes again", 1, " ab!", MatchingGraph::load);
        new Scene(4, "ab!", "ab!").edits("one that is in it", 0, " ab!", MatchingGraph::load);
        new Scene(4, "ab!", "bc!").edits("the lower node is matched", 1, " ab! bc", MatchingGraph::load);
        new Scene(4, "cd!", "bc!").edits("the higher node is matched", 1, " bc cd!", MatchingGraph::load);
        new Scene(4, "ab!,cd!", "bc!").edits("both are matched", 1, " ab! bc cd!", MatchingGraph::load);
        new Scene(4, "ab!", "cd!").edits("both are exposed", 1, " ab! cd!", MatchingGraph::load);
        new Scene(4, "ab", "bc!").edits("a node with an edge is exposed", 1, " ab bc!", MatchingGraph::load);
        new Scene(4, "", "bc!,ab!,cd!,ad!").edits("exposed then", 4, " ab ad! bc! cd", MatchingGraph::load);
        new Scene(4, "", "ab,cd").edits("without a mark", 2, " ab cd", MatchingGraph::load);
        new Scene(4, "ab!", "ab,ac!").edits("no mark takes none away", 1, " ab! ac", MatchingGraph::load);
        MatchingGraph x = Check.made(12, "ab!,cd!,ef!,gh!,ij!,kl!,al!,bk!,cj!,di!,eh!,fg!");
        Check.due("the first six of twelve", x.count(2), 6);
        Check.due("the last of them", x.edge(10, 11, 1), 1);
    }

    private static void loadCounts(Doc doc) {
        doc.says("This is an edit");
        MatchingGraph x = Check.made(4, "ab!,bc,cd");
        Check.due("one edit for all edges", x.count(10), 1);
        Check.due("undone", x.undo(), 0);
        Check.due("all edges are gone", State.edges(x), "4:");
        new Scene(4, "ab!,bc", "ab").edits("load that changes nothing", 0, " ab! bc", MatchingGraph::load);
        new Scene(6, "ab!,bc,cd,de,ef", "ef!").edits("load with 4 kept", 0, " ab! bc cd de ef!", MatchingGraph::load);
        MatchingGraph y = Check.made(4, "ab");
        Check.type(y, "cd");
        y.undo();
        Check.due("undo leaves the buffer alone", y.load(), 1);
        y.undo();
        Check.due("undo brings no buffer back", y.clearInput(), 0);

        doc.says("Returns how many edges were not there before");
        Check.due("none of one", loaded("ab,bc", "ab"), 0);
        Check.due("one of one", loaded("ab,bc", "cd"), 1);
        Check.due("none of two", loaded("ab,bc", "bc,ab!"), 0);
        Check.due("one of two", loaded("ab,bc", "ab,cd"), 1);
        Check.due("two of two", loaded("ab,bc", "cd!,de!"), 2);
        Check.due("an edge that comes twice", loaded("ab,bc", "de,de"), 1);
        Check.due("the most", typed(12, MOST_EDGES).load(), 20);
        Check.due("the most with a mark", typed(12, MOST_EDGES + "!").load(), 20);
        Check.due("all but one", loaded("aj", MOST_EDGES), 19);
        Check.due("all but the first", loaded("ab", MOST_EDGES), 19);
    }

    private static int loaded(String before, String text) {
        MatchingGraph x = Check.made(12, before);
        Check.type(x, text);
        return x.load();
    }

    private static void refusedLoads(Doc doc) {
        doc.says("Throws `IllegalArgumentException` if the buffer is not a complete text");
        String[] texts = {"", "e", "cd,", "cd!,", "cd!!", "dc", "cc", "cd,e", "cg", "f", "cd,x", "cd;", "cd ", " cd",
            "cd,,de", "de!,cd!,x", "CD", "cd,de,ef!,ag", "cde", times("cd,", 20), times("cd,", 19) + "cd;"};
        for (String text : texts) {
            new Scene(6, "ab!,bc,cd,de,ae", text).refuses("load", Check.NO_ARGUMENT, MatchingGraph::load);
            new Scene(6, "", text).refuses("load", Check.NO_ARGUMENT, MatchingGraph::load);
        }
        MatchingGraph x = typed(6, "ef");
        x.begin(5);
        Check.due("a letter of no node any more", Check.answer(x::load), Check.NO_ARGUMENT);
        x.begin(6);
        Check.due("a letter of a node again", Check.answer(x::load), 1);
    }
}
