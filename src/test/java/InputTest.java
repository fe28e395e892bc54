/** Promises 4 to 7: append, clearInput, firstError, load. */
public final class InputTest {
    public static void main(String[] args) {
        append();
        clearInput();
        firstError();
        load();
        wrongLoads();
        Check.end("InputTest");
    }

    private static void append() {
        MatchingGraph x = new MatchingGraph();
        for (int code : new int[] {31, 127, -1, 0, 97 + 256, Integer.MIN_VALUE, Integer.MAX_VALUE}) {
            Check.refused(x, "append(" + code + ")", IllegalArgumentException.class, () -> x.append(code));
        }
        Check.due("append(32)", x.append(32), 1);
        Check.due("append(126)", x.append(126), 2);
        for (int length = 3; length <= 60; length++) {
            Check.due("append", x.append(97), length);
        }
        Check.refused(x, "append to 60", IllegalStateException.class, () -> x.append(97));
        Check.refused(x, "append a wrong code to 60", IllegalArgumentException.class, () -> x.append(31));
        Check.due("append is no edit", x.count(10), 0);
        Check.due("length", x.clearInput(), 60);
        Check.due("append again", x.append(97), 1);
    }

    private static void clearInput() {
        MatchingGraph x = Check.made(4, "ab!");
        String before = State.of(x);
        Check.type(x, "ab,c");
        Check.due("clearInput()", x.clearInput(), 4);
        Check.due("clearInput() again", x.clearInput(), 0);
        Check.due("nothing else is changed", State.of(x), before);
    }

    private static void error(int nodes, String text, int want) {
        MatchingGraph x = Check.made(nodes, "");
        Check.type(x, text);
        Check.due("firstError of " + text + " with " + nodes + " nodes", x.firstError(), want);
        Check.due("the buffer stays", x.clearInput(), text.length());
    }

    private static void firstError() {
        error(6, "", 0);
        error(6, "a", 1);
        error(6, "ab", 2);
        error(6, "ab!", 3);
        error(6, "ab!,", 4);
        error(6, "ab,ef!,af", 9);
        error(6, "e", 1);
        error(6, "f", 0);
        error(6, "af", 2);
        error(6, "ag", 1);
        error(6, "ef", 2);
        error(6, "aa", 1);
        error(6, "ba", 1);
        error(6, "!", 0);
        error(6, ",", 0);
        error(6, "a!", 1);
        error(6, "a,", 1);
        error(6, "ab!!", 3);
        error(6, "abc", 2);
        error(6, "ab!c", 3);
        error(6, "ab,,", 3);
        error(6, "ab,!", 3);
        error(6, "ab ,cd", 2);
        error(6, " ab", 0);
        error(6, "Ab", 0);
        error(6, "aB", 1);
        error(6, "a~", 1);
        error(6, "`a", 0);
        error(6, "ba,?", 1);
        error(2, "ab", 2);
        error(2, "b", 0);
        error(2, "ac", 1);
        error(12, "kl", 2);
        error(12, "l", 0);
        error(12, "km", 1);
        error(12, "lm", 0);
        error(12, "ab,kl!,al,l", 10);
        error(12, "ab!,bc!,cd!,de!,ef!,fg!,gh!,hi!,ij!,jk!,kl!,al!,ac!,ad!,ae!,", 60);
    }

    private static void load() {
        MatchingGraph x = new MatchingGraph();
        Check.type(x, "ab!,bc!,cd,ab,ef!");
        Check.due("load()", x.load(), 4);
        Check.due("what was loaded", State.edges(x), "6: ab! bc cd ef!");
        Check.due("the buffer is cleared", x.clearInput(), 0);
        Check.due("one edit", x.count(10), 1);
        Check.type(x, "cd!,ab");
        Check.due("load of edges that are there", x.load(), 0);
        Check.due("one was matched, one stays so", State.edges(x), "6: ab! bc cd! ef!");
        Check.type(x, "ae");
        Check.due("load()", x.load(), 1);
        Check.type(x, "af");
        Check.due("undo", x.undo(), 2);
        Check.due("behind undo", State.edges(x), "6: ab! bc cd! ef!");
        Check.due("undo leaves the buffer", x.clearInput(), 2);
        x.undo();
        Check.due("behind undo", State.edges(x), "6: ab! bc cd ef!");
        x.undo();
        Check.due("behind undo", State.edges(x), "6:");
        MatchingGraph y = Check.made(4, "ab,ab!");
        Check.due("an edge is matched when it comes again", State.edges(y), "4: ab!");
        MatchingGraph z = Check.made(4, "bc!,ab!,cd!,ad!");
        Check.due("one after the other", State.edges(z), "4: ab ad! bc! cd");
    }

    private static void wrongLoads() {
        for (String text : new String[] {"", "a", "ab,", "ab!,", "ab!!", "ba", "ab,c", "ag", "ab,x", "ab,cd;"}) {
            MatchingGraph x = Check.made(6, "ab!,cd");
            Check.type(x, text);
            Check.refused(x, "load of " + text, IllegalArgumentException.class, x::load);
            Check.due("the buffer stays", x.clearInput(), text.length());
        }
        MatchingGraph x = Check.made(6, "");
        Check.type(x, "ef");
        x.begin(5);
        Check.refused(x, "load with a node that is gone", IllegalArgumentException.class, x::load);
        x.begin(7);
        Check.due("load with the node back", x.load(), 1);
    }
}
