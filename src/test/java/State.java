import java.util.ArrayList;
import java.util.List;

/** Writes down what can be seen of an object. */
final class State {
    private State() {
    }

    /** All in few calls, for an object answers only 512. */
    static String of(MatchingGraph x) {
        StringBuilder text = new StringBuilder();
        text.append(x.count(0)).append(" nodes, ").append(x.count(1)).append(" edges, ");
        text.append(x.count(2)).append(" matched, ").append(x.count(10)).append(" kept, error at ");
        return text.append(x.firstError()).append(", digest ").append(x.digest()).toString();
    }

    /** The number of nodes and the edges, those of the matching with "!". */
    static String edges(MatchingGraph x) {
        StringBuilder text = new StringBuilder();
        int nodes = x.count(0);
        text.append(nodes).append(':');
        for (int one = 0; one < nodes; one++) {
            for (int other = one + 1; other < nodes; other++) {
                if (x.edge(one, other, 0) == 1) {
                    text.append(' ').append((char) ('a' + one)).append((char) ('a' + other));
                    text.append(x.edge(one, other, 1) == 1 ? "!" : "");
                }
            }
        }
        return text.toString();
    }

    /** The values of which the digest is made, asked for by calls of their own. */
    static List<Integer> values(MatchingGraph x, String typed) {
        List<Integer> found = new ArrayList<>();
        for (int what = 0; what <= 10; what++) {
            found.add(x.count(what));
        }
        int nodes = x.count(0);
        for (int node = 0; node < nodes; node++) {
            for (int what = 0; what <= 4; what++) {
                found.add(x.node(node, what));
            }
            found.addAll(List.of(x.firstMate(node), x.reach(node, true), x.reach(node, false)));
            if (x.node(node, 1) == MatchingGraph.NONE) {
                found.add(x.way(node));
            }
        }
        for (int one = 0; one < nodes; one++) {
            for (int other = one + 1; other < nodes; other++) {
                found.addAll(List.of(x.edge(one, other, 0), x.edge(one, other, 1), x.edge(one, other, 2)));
            }
        }
        found.addAll(List.of(x.proof(), x.oddCycle(), x.difference(0), x.difference(1), typed.length()));
        for (char code : typed.toCharArray()) {
            found.add((int) code);
        }
        return found;
    }
}
