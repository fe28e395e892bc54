import java.util.Objects;

/** Counts and prints the answers that are not the ones that are due. */
final class Check {
    /** A call whose answer or exception is looked at. */
    interface Call {
        Object run();
    }

    static final String NO_INDEX = "throws.IndexOutOfBoundsException";
    static final String NO_ARGUMENT = "throws.IllegalArgumentException";
    static final String NO_STATE = "throws.IllegalStateException";

    private static int wrong = 0;
    private static int done = 0;
    private static String at = "";

    private Check() {
    }

    /** Says what stands ahead of the names of the checks from here on. */
    static void at(String place) {
        at = place;
    }

    static int done() {
        return done;
    }

    static void due(String what, Object got, Object want) {
        done++;
        if (!Objects.equals(got, want)) {
            wrong++;
            System.out.println(at + what + " answered " + got + ", due is " + want);
        }
    }

    /** The answer of a call, or the name of the exception that it throws. */
    static Object answer(Call call) {
        try {
            return call.run();
        } catch (RuntimeException e) {
            return "throws." + e.getClass().getSimpleName();
        }
    }

    /** Tests that a call throws an exception, and that it changes nothing. */
    static void refused(MatchingGraph x, String what, Class<?> exception, Call call) {
        String before = State.of(x);
        due(what, answer(call), "throws." + exception.getSimpleName());
        due(what + ", the state behind it", State.of(x), before);
    }

    static void type(MatchingGraph x, String text) {
        for (int i = 0; i < text.length(); i++) {
            x.append(text.charAt(i));
        }
    }

    /** A new object with so many nodes and the edges of a text, of which those with "!" are matched. */
    static MatchingGraph made(int nodes, String text) {
        MatchingGraph x = new MatchingGraph();
        x.begin(nodes);
        if (!text.isEmpty()) {
            type(x, text);
            x.load();
        }
        return x;
    }

    /** A new object with so many nodes, each two of which are adjacent. */
    static MatchingGraph complete(int nodes) {
        MatchingGraph x = made(nodes, "");
        for (int one = 0; one < nodes; one++) {
            for (int other = one + 1; other < nodes; other++) {
                x.setEdge(one, other, true);
            }
        }
        return x;
    }

    static int set(String letters) {
        int set = 0;
        for (int i = 0; i < letters.length(); i++) {
            set |= 1 << letters.charAt(i) - 'a';
        }
        return set;
    }

    static void end(String name) {
        System.out.println(name + ": " + (wrong == 0 ? "all answers are as due" : wrong + " answers are not as due"));
        if (wrong != 0) {
            System.exit(1);
        }
    }
}
