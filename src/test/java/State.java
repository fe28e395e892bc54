/** Writes down what can be seen of an object. */
final class State {
    private State() {
    }

    static String of(MatchingGraph x) {
        StringBuilder text = new StringBuilder(edges(x));
        text.append(" kept ").append(x.count(10)).append(" error ").append(x.firstError());
        return text.append(" digest ").append(x.digest()).toString();
    }

    /** The number of nodes and the edges, those of the matching with "!". */
    static String edges(MatchingGraph x) {
        StringBuilder text = new StringBuilder();
        int nodes = x.count(0);
        text.append(nodes).append(':');
        for (int one = 0; one < nodes; one++) {
            for (int other = one + 1; other < nodes; other++) {
                if (x.edge(one, other, 0) == 1) {
                    text.append(' ').append((char) ('a' + one)).append((char) ('a' + other));
                    text.append(x.edge(one, other, 1) == 1 ? "!" : "");
                }
            }
        }
        return text.toString();
    }
}
