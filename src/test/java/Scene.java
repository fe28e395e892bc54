import java.util.ArrayList;
import java.util.List;

/**
 * A state of an object: so many nodes, the edges of a text (those with "!" are matched), and what
 * is typed into the buffer. A call is tried in it with no more edits kept than needed, with as many
 * as there are edges, behind an undo, and on an object that had more nodes and edges before.
 */
record Scene(int nodes, String text, String typed) {
    private static final String[] STORIES = {"", " loaded edge by edge", " behind an undo", " begun anew"};

    /** A call on an object. */
    interface Call {
        Object on(MatchingGraph x);
    }

    Scene(int nodes, String text) {
        this(nodes, text, "");
    }

    private MatchingGraph make(int story) {
        MatchingGraph x = new MatchingGraph();
        if (story == 3) {
            x.begin(12);
            load(x, "al!,bk!,cj!,di!,eh!,fg!,ab,kl");
            x.setEdge(3, 4, true);
        }
        x.begin(nodes);
        boolean stepwise = story == 1 || story == 2;
        for (String part : stepwise ? text.split(",") : new String[] {text}) {
            load(x, part);
        }
        if (story == 2) {
            x.takeFirst();
            x.undo();
        }
        Check.type(x, typed);
        return x;
    }

    private static void load(MatchingGraph x, String edges) {
        if (!edges.isEmpty()) {
            Check.type(x, edges);
            x.load();
        }
    }

    /** Tests that a call throws this, and that all is then as if there had been no call. */
    void refuses(String name, String exception, Call call) {
        answers(name, exception, call);
    }

    /** Tests that a call answers this, and that all is then as if there had been no call. */
    void answers(String name, Object want, Call call) {
        for (int story = 0; story < STORIES.length; story++) {
            MatchingGraph x = make(story);
            MatchingGraph twin = make(story);
            String place = name + " in " + this + STORIES[story];
            Check.due(place, Check.answer(() -> call.on(x)), want);
            Check.due("the state behind " + place, whole(x), whole(twin));
        }
    }

    /** Tests that a call is an edit, with this answer and these edges behind it. */
    void edits(String name, Object want, String edges, Call call) {
        for (int story = 0; story < STORIES.length; story++) {
            MatchingGraph x = make(story);
            MatchingGraph twin = make(story);
            String place = name + " in " + this + STORIES[story];
            int kept = twin.count(10);
            Check.due(place, Check.answer(() -> call.on(x)), want);
            Check.due("the edges behind " + place, State.edges(x), nodes + ":" + edges);
            Check.due("the edits behind " + place, x.count(10), Math.min(kept + 1, 4));
            List<String> before = graphs(twin);
            List<String> behind = graphs(x).subList(1, Math.min(kept + 1, 4) + 1);
            Check.due("what is undone behind " + place, behind, before.subList(0, behind.size()));
        }
    }

    /** The present edges and those behind each undo. */
    private static List<String> graphs(MatchingGraph x) {
        List<String> found = new ArrayList<>();
        found.add(State.edges(x));
        for (int left = x.count(10); left > 0; left--) {
            x.undo();
            found.add(State.edges(x));
        }
        return found;
    }

    /** All that can be seen of an object, also behind each undo. */
    private static String whole(MatchingGraph x) {
        StringBuilder text = new StringBuilder(State.of(x)).append(' ').append(State.edges(x));
        for (int left = x.count(10); left > 0; left--) {
            text.append(" undo ").append(x.undo()).append(' ').append(x.digest());
        }
        return text.toString();
    }

    /** Tests that an object with these edges answers like a new one, but for the edits that are kept. */
    static void isLikeNew(String name, MatchingGraph x, String text) {
        List<Integer> answers = State.values(x, "");
        List<Integer> fresh = State.values(Check.made(x.count(0), text), "");
        int kept = 10;
        answers.set(kept, 0);
        fresh.set(kept, 0);
        Check.due("what is there " + name, answers, fresh);
    }

    /** Numbers of nodes that do not exist: beside the bounds, and those that wrap around in shifts. */
    int[] noNodes() {
        return new int[] {-1, nodes, -2, nodes + 1, 12, 13, 31, 32, 33, 32 + nodes - 1, 63, 64, 65, 256, 65536,
            -31, -32, -33, Integer.MIN_VALUE, Integer.MIN_VALUE + 1, Integer.MAX_VALUE, Integer.MAX_VALUE - 1};
    }

    /** Numbers beside a range from 0, and far from it. */
    static int[] beside(int highest) {
        return new int[] {-1, highest + 1, -2, highest + 2, 256, 65536, 1 << 30,
            Integer.MIN_VALUE, Integer.MIN_VALUE + 1, Integer.MAX_VALUE, Integer.MAX_VALUE - 1};
    }
}
