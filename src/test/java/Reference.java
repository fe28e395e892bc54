import java.util.ArrayList;
import java.util.Arrays;
import java.util.List;

/**
 * The document's words once more, told in the slowest and plainest way: every matching, every
 * path, every cycle and every set of nodes is made and looked at.
 */
final class Reference {
    private static final int NONE = -1;

    private int nodes = 6;
    private boolean[][] near = new boolean[6][6];
    private int[] mate = exposed(6);
    private String buffer = "";
    private final List<boolean[][]> keptNear = new ArrayList<>();
    private final List<int[]> keptMate = new ArrayList<>();

    /** All maximum matchings, as the mates of the nodes; null if they must be found again. */
    private List<int[]> maxima;
    private int least = NONE;

    static Reference of(MatchingGraph x) {
        Reference copy = new Reference();
        copy.begin(x.count(0));
        for (int one = 0; one < copy.nodes; one++) {
            copy.mate[one] = x.node(one, 1);
            for (int other = 0; other < copy.nodes; other++) {
                copy.near[one][other] = x.edge(one, other, 0) == 1;
            }
        }
        return copy;
    }

    private static int[] exposed(int nodes) {
        int[] mates = new int[nodes];
        Arrays.fill(mates, NONE);
        return mates;
    }

    private void needNode(int node) {
        if (node < 0 || node >= nodes) {
            throw new IndexOutOfBoundsException();
        }
    }

    private void needArgument(boolean fine) {
        if (!fine) {
            throw new IllegalArgumentException();
        }
    }

    private void needState(boolean fine) {
        if (!fine) {
            throw new IllegalStateException();
        }
    }

    private void save() {
        boolean[][] copy = new boolean[nodes][];
        for (int node = 0; node < nodes; node++) {
            copy[node] = near[node].clone();
        }
        keptNear.add(copy);
        keptMate.add(mate.clone());
        if (keptNear.size() > 4) {
            keptNear.remove(0);
            keptMate.remove(0);
        }
    }

    private void graphChanged() {
        maxima = null;
        least = NONE;
    }

    int begin(int newNodes) {
        needArgument(newNodes >= 2 && newNodes <= 12);
        int before = nodes;
        nodes = newNodes;
        near = new boolean[nodes][nodes];
        mate = exposed(nodes);
        keptNear.clear();
        keptMate.clear();
        graphChanged();
        return before;
    }

    int setEdge(int one, int other, boolean on) {
        needNode(one);
        needNode(other);
        needArgument(one != other);
        save();
        int before = near[one][other] ? 1 : 0;
        near[one][other] = on;
        near[other][one] = on;
        if (!on && mate[one] == other) {
            mate[one] = NONE;
            mate[other] = NONE;
        }
        graphChanged();
        return before;
    }

    int append(int code) {
        needArgument(code >= 32 && code <= 126);
        needState(buffer.length() < 60);
        buffer += (char) code;
        return buffer.length();
    }

    int clearInput() {
        int before = buffer.length();
        buffer = "";
        return before;
    }

    private boolean isEdge(String word) {
        String letters = "abcdefghijkl".substring(0, nodes);
        String plain = word.endsWith("!") ? word.substring(0, word.length() - 1) : word;
        return plain.length() == 2 && letters.indexOf(plain.charAt(0)) >= 0
                && letters.indexOf(plain.charAt(1)) > letters.indexOf(plain.charAt(0));
    }

    private boolean isText(String text) {
        for (String word : text.split(",", -1)) {
            if (!isEdge(word)) {
                return false;
            }
        }
        return true;
    }

    /** A text is without an error if it can become a text of edges. */
    private boolean canGoOn(String text) {
        String last = "abcdefghijkl".substring(nodes - 1, nodes);
        String before = "abcdefghijkl".substring(nodes - 2, nodes - 1);
        return isText(text) || isText(text + last) || isText(text + before + last);
    }

    int firstError() {
        for (int length = 1; length <= buffer.length(); length++) {
            if (!canGoOn(buffer.substring(0, length))) {
                return length - 1;
            }
        }
        return buffer.length();
    }

    int load() {
        needArgument(isText(buffer));
        save();
        int added = 0;
        for (String word : buffer.split(",")) {
            int one = word.charAt(0) - 'a';
            int other = word.charAt(1) - 'a';
            added += near[one][other] ? 0 : 1;
            near[one][other] = true;
            near[other][one] = true;
            if (word.length() == 3 && mate[one] == NONE && mate[other] == NONE) {
                mate[one] = other;
                mate[other] = one;
            }
        }
        buffer = "";
        graphChanged();
        return added;
    }

    int match(int one, int other) {
        needNode(one);
        needNode(other);
        needState(near[one][other] && mate[one] == NONE && mate[other] == NONE);
        save();
        mate[one] = other;
        mate[other] = one;
        return size(mate);
    }

    int unmatch(int node) {
        needNode(node);
        needState(mate[node] != NONE);
        save();
        int before = mate[node];
        mate[node] = NONE;
        mate[before] = NONE;
        return before;
    }

    int augment(int node) {
        needNode(node);
        needState(mate[node] == NONE);
        save();
        return augmentAlong(wayOf(node));
    }

    private int augmentAlong(List<Integer> way) {
        for (int place = 0; place + 1 < way.size(); place += 2) {
            mate[way.get(place)] = way.get(place + 1);
            mate[way.get(place + 1)] = way.get(place);
        }
        return Math.max(way.size() - 1, 0);
    }

    int maximize() {
        save();
        int times = 0;
        for (int node = 0; node < nodes; node++) {
            if (mate[node] == NONE && augmentAlong(wayOf(node)) > 0) {
                times++;
                node = -1;
            }
        }
        return times;
    }

    int takeFirst() {
        save();
        int[] first = first();
        int fresh = 0;
        for (int node = 0; node < nodes; node++) {
            fresh += first[node] > node && mate[node] != first[node] ? 1 : 0;
        }
        mate = first.clone();
        return fresh;
    }

    int undo() {
        needState(!keptNear.isEmpty());
        near = keptNear.remove(keptNear.size() - 1);
        mate = keptMate.remove(keptMate.size() - 1);
        graphChanged();
        return keptNear.size();
    }

    /** Adds all alternating paths that begin with a path to a list. */
    private void alternating(List<Integer> path, List<List<Integer>> found) {
        found.add(new ArrayList<>(path));
        int last = path.get(path.size() - 1);
        boolean matchedNext = path.size() % 2 == 0;
        for (int next = 0; next < nodes; next++) {
            if (near[last][next] && !path.contains(next) && (mate[last] == next) == matchedNext) {
                path.add(next);
                alternating(path, found);
                path.remove(path.size() - 1);
            }
        }
    }

    private List<List<Integer>> pathsFrom(int node) {
        List<List<Integer>> found = new ArrayList<>();
        alternating(new ArrayList<>(List.of(node)), found);
        return found;
    }

    private List<Integer> wayOf(int node) {
        List<Integer> best = new ArrayList<>();
        for (List<Integer> path : pathsFrom(node)) {
            if (path.size() > 1 && mate[path.get(path.size() - 1)] == NONE
                    && (best.isEmpty() || isBefore(path, best))) {
                best = path;
            }
        }
        return best;
    }

    private static boolean isBefore(List<Integer> path, List<Integer> than) {
        if (path.size() != than.size()) {
            return path.size() < than.size();
        }
        for (int place = 0; place < path.size(); place++) {
            if (!path.get(place).equals(than.get(place))) {
                return path.get(place) < than.get(place);
            }
        }
        return false;
    }

    String wayText(int node) {
        StringBuilder text = new StringBuilder();
        for (int next : wayOf(node)) {
            text.append((char) ('a' + next));
        }
        return text.toString();
    }

    int way(int node) {
        needNode(node);
        needState(mate[node] == NONE);
        return Math.max(wayOf(node).size() - 1, 0);
    }

    int wayNode(int node, int place) {
        needNode(node);
        needState(mate[node] == NONE);
        List<Integer> way = wayOf(node);
        return place >= 0 && place < way.size() ? way.get(place) : NONE;
    }

    int reach(int node, boolean even) {
        needNode(node);
        int set = 0;
        if (mate[node] == NONE) {
            for (List<Integer> path : pathsFrom(node)) {
                if ((path.size() - 1) % 2 == (even ? 0 : 1)) {
                    set |= 1 << path.get(path.size() - 1);
                }
            }
        }
        return set;
    }

    int oddCycle() {
        for (int length = 3; length <= nodes; length += 2) {
            for (int node = 0; node < nodes; node++) {
                if (hasCycle(new ArrayList<>(List.of(node)), length)) {
                    return length;
                }
            }
        }
        return NONE;
    }

    private boolean hasCycle(List<Integer> path, int length) {
        int last = path.get(path.size() - 1);
        if (path.size() == length) {
            return near[last][path.get(0)];
        }
        for (int next = path.get(0) + 1; next < nodes; next++) {
            if (near[last][next] && !path.contains(next)) {
                path.add(next);
                boolean found = hasCycle(path, length);
                path.remove(path.size() - 1);
                if (found) {
                    return true;
                }
            }
        }
        return false;
    }

    private static int size(int[] mates) {
        int matched = 0;
        for (int other : mates) {
            matched += other == NONE ? 0 : 1;
        }
        return matched / 2;
    }

    /** Adds the matchings that agree with some mates below a node to a list, if they are greatest. */
    private void matchings(int node, int[] mates, List<int[]> greatest) {
        if (node == nodes) {
            if (!greatest.isEmpty() && size(greatest.get(0)) < size(mates)) {
                greatest.clear();
            }
            if (greatest.isEmpty() || size(greatest.get(0)) == size(mates)) {
                greatest.add(mates.clone());
            }
            return;
        }
        matchings(node + 1, mates, greatest);
        for (int other = 0; other < node; other++) {
            if (near[node][other] && mates[other] == NONE) {
                mates[node] = other;
                mates[other] = node;
                matchings(node + 1, mates, greatest);
                mates[node] = NONE;
                mates[other] = NONE;
            }
        }
    }

    private List<int[]> maxima() {
        if (maxima == null) {
            maxima = new ArrayList<>();
            matchings(0, exposed(nodes), maxima);
        }
        return maxima;
    }

    private int number() {
        return size(maxima().get(0));
    }

    private int[] first() {
        int[] best = maxima().get(0);
        for (int[] other : maxima()) {
            int node = 0;
            while (node < nodes && other[node] == best[node]) {
                node++;
            }
            if (node < nodes && rank(other[node]) < rank(best[node])) {
                best = other;
            }
        }
        return best;
    }

    private static int rank(int mate) {
        return mate == NONE ? 99 : mate;
    }

    int firstMate(int node) {
        needNode(node);
        return first()[node];
    }

    int proof() {
        if (least == NONE) {
            for (int set = 0; set < 1 << nodes; set++) {
                boolean fewer = least == NONE || Integer.bitCount(set) < Integer.bitCount(least);
                if (fewer && components(set, true) == Integer.bitCount(set) + nodes - 2 * number()) {
                    least = set;
                }
            }
        }
        return least;
    }

    /** The lowest node of the component of each node; NONE for those that are left out. */
    private int[] lowest(int without, boolean[][] joined) {
        int[] low = new int[nodes];
        for (int node = 0; node < nodes; node++) {
            low[node] = (without >> node & 1) != 0 ? NONE : node;
        }
        for (int round = 0; round < nodes; round++) {
            for (int one = 0; one < nodes; one++) {
                for (int other = 0; other < nodes; other++) {
                    if (low[one] != NONE && low[other] != NONE && joined[one][other]) {
                        low[one] = Math.min(low[one], low[other]);
                    }
                }
            }
        }
        return low;
    }

    int components(int without, boolean odd) {
        needArgument(without >= 0 && without < 1 << nodes);
        int[] low = lowest(without, near);
        int number = 0;
        for (int node = 0; node < nodes; node++) {
            int size = 0;
            for (int one = 0; one < nodes; one++) {
                size += low[one] == node ? 1 : 0;
            }
            number += size > 0 && (!odd || size % 2 == 1) ? 1 : 0;
        }
        return number;
    }

    int ifChanged(int one, int other) {
        needNode(one);
        needNode(other);
        needArgument(one != other);
        near[one][other] = !near[one][other];
        near[other][one] = !near[other][one];
        List<int[]> before = maxima;
        maxima = null;
        int number = number();
        maxima = before;
        near[one][other] = !near[one][other];
        near[other][one] = !near[other][one];
        return number;
    }

    int node(int node, int what) {
        needNode(node);
        needArgument(what >= 0 && what <= 4);
        switch (what) {
            case 0:
                int degree = 0;
                for (int other = 0; other < nodes; other++) {
                    degree += near[node][other] ? 1 : 0;
                }
                return degree;
            case 1:
                return mate[node];
            case 2:
                return part(node);
            case 3:
                int leaving = 0;
                for (int[] one : maxima()) {
                    leaving += one[node] == NONE ? 1 : 0;
                }
                return leaving;
            default:
                return lowest(0, near)[node];
        }
    }

    private int part(int node) {
        if (node(node, 3) > 0) {
            return 0;
        }
        for (int other = 0; other < nodes; other++) {
            if (near[node][other] && node(other, 3) > 0) {
                return 1;
            }
        }
        return 2;
    }

    int edge(int one, int other, int what) {
        needNode(one);
        needNode(other);
        needArgument(what >= 0 && what <= 2);
        if (what == 0) {
            return near[one][other] ? 1 : 0;
        }
        if (what == 1) {
            return mate[one] == other ? 1 : 0;
        }
        int having = 0;
        for (int[] some : maxima()) {
            having += some[one] == other ? 1 : 0;
        }
        return having;
    }

    int count(int what) {
        needArgument(what >= 0 && what <= 10);
        int edges = 0;
        int inAll = 0;
        int inNone = 0;
        for (int one = 0; one < nodes; one++) {
            for (int other = one + 1; other < nodes; other++) {
                if (near[one][other]) {
                    int having = what == 6 || what == 7 ? edge(one, other, 2) : 0;
                    edges++;
                    inAll += having == maxima().size() ? 1 : 0;
                    inNone += having == 0 ? 1 : 0;
                }
            }
        }
        int[] numbers = {nodes, edges, size(mate), number(), nodes - 2 * number(), maxima().size(),
            inAll, inNone, what == 8 && critical() ? 1 : 0, components(0, false), keptNear.size()};
        return numbers[what];
    }

    private boolean critical() {
        for (int node = 0; node < nodes; node++) {
            Reference rest = new Reference();
            rest.nodes = nodes;
            rest.near = new boolean[nodes][nodes];
            for (int one = 0; one < nodes; one++) {
                for (int other = 0; other < nodes; other++) {
                    rest.near[one][other] = near[one][other] && one != node && other != node;
                }
            }
            if (2 * rest.number() != nodes - 1) {
                return false;
            }
        }
        return true;
    }

    int difference(int what) {
        needArgument(what == 0 || what == 1);
        int[] first = first();
        boolean[][] joined = new boolean[nodes][nodes];
        for (int one = 0; one < nodes; one++) {
            for (int other = 0; other < nodes; other++) {
                joined[one][other] = (mate[one] == other) != (first[one] == other);
            }
        }
        int[] low = lowest(0, joined);
        int[] sizes = new int[nodes];
        int[] ends = new int[nodes];
        for (int one = 0; one < nodes; one++) {
            sizes[low[one]]++;
            for (int other = 0; other < nodes; other++) {
                ends[low[one]] += joined[one][other] ? 1 : 0;
            }
        }
        int found = 0;
        for (int node = 0; node < nodes; node++) {
            // A cycle has as many edges as nodes, a path one less.
            boolean fits = what == 0 ? ends[node] == 2 * sizes[node] : ends[node] == 2 * sizes[node] - 2;
            found += sizes[node] > 1 && fits ? 1 : 0;
        }
        return found;
    }

    double meanUse() {
        int edges = count(1);
        if (edges == 0) {
            return 0.0;
        }
        int sum = 0;
        for (int[] some : maxima()) {
            sum += size(some);
        }
        return (double) sum / (edges * maxima().size());
    }

    long digest() {
        List<Integer> values = new ArrayList<>();
        for (int what = 0; what <= 10; what++) {
            values.add(count(what));
        }
        for (int node = 0; node < nodes; node++) {
            for (int what = 0; what <= 4; what++) {
                values.add(node(node, what));
            }
            values.add(firstMate(node));
            values.add(reach(node, true));
            values.add(reach(node, false));
            if (mate[node] == NONE) {
                values.add(way(node));
            }
        }
        for (int one = 0; one < nodes; one++) {
            for (int other = one + 1; other < nodes; other++) {
                for (int what = 0; what <= 2; what++) {
                    values.add(edge(one, other, what));
                }
            }
        }
        values.addAll(List.of(proof(), oddCycle(), difference(0), difference(1), buffer.length()));
        for (char code : buffer.toCharArray()) {
            values.add((int) code);
        }
        long hash = 2003;
        for (int value : values) {
            hash = 31 * hash + value;
        }
        return hash;
    }
}
