import java.util.Random;

/** Long runs of calls, drawn with fixed seeds, whose answers are compared with the plain telling. */
public final class ReferenceTest {
    /** Each step makes up to 5 calls, and an object is good for 512. */
    private static final int STEPS = 90;

    private final Random random;
    private final MatchingGraph x = new MatchingGraph();
    private final Reference y = new Reference();
    private final int most;
    private final String name;

    private ReferenceTest(int seed, int most) {
        random = new Random(seed);
        this.most = most;
        name = "run " + seed + " with at most " + most + " nodes: ";
    }

    public static void main(String[] args) {
        int runs = args.length > 0 ? Integer.parseInt(args[0]) : 300;
        for (int seed = 0; seed < runs; seed++) {
            new ReferenceTest(seed, seed % 3 == 0 ? 12 : seed % 3 == 1 ? 9 : 6).run();
        }
        for (int seed = 0; seed < 3 * runs; seed++) {
            new ReferenceTest(seed, 12).lookAtAll();
        }
        Check.end("ReferenceTest");
    }

    private void run() {
        both("begin", () -> x.begin(most), () -> y.begin(most));
        addEdges(most, random.nextInt(2 * most), 9);
        for (int step = 0; step < STEPS; step++) {
            int kind = random.nextInt(100);
            if (kind < 45) {
                edit();
            } else if (kind < 60) {
                type();
            } else if (kind < 98) {
                look();
            } else {
                both("digest", x::digest, y::digest);
            }
        }
        both("digest", x::digest, y::digest);
    }

    /** A graph with few or many edges, a matching that is not the first one, and a look at all. */
    private void lookAtAll() {
        int nodes = 2 + random.nextInt(11);
        both("begin", () -> x.begin(nodes), () -> y.begin(nodes));
        addEdges(nodes, random.nextInt(random.nextInt(4) > 0 ? 2 * nodes : 6 * nodes), 3);
        if (random.nextBoolean()) {
            matchWherePossible(nodes);
        }
        both("digest", x::digest, y::digest);
        both("meanUse", x::meanUse, y::meanUse);
        for (int node = 0; node < nodes; node++) {
            int asked = node;
            for (int place = 0; place <= nodes; place++) {
                int at = place;
                both("wayNode " + node + " " + at, () -> x.wayNode(asked, at), () -> y.wayNode(asked, at));
            }
        }
        for (int node = 0; node < nodes; node++) {
            int asked = node;
            both("way " + node, () -> x.way(asked), () -> y.way(asked));
        }
        both("maximize", x::maximize, y::maximize);
        both("digest behind maximize", x::digest, y::digest);
    }

    private void addEdges(int nodes, int edges, int oneOf) {
        for (int edge = 0; edge < edges; edge++) {
            int one = random.nextInt(nodes);
            int other = random.nextInt(nodes);
            both("setEdge", () -> x.setEdge(one, other, true), () -> y.setEdge(one, other, true));
            if (random.nextInt(oneOf) == 0) {
                both("match", () -> x.match(one, other), () -> y.match(one, other));
            }
        }
    }

    /** Leaves no edge between exposed nodes, so that the ways that are left are long. */
    private void matchWherePossible(int nodes) {
        int turn = random.nextInt(nodes);
        for (int node = 0; node < nodes; node++) {
            for (int after = 1; after <= nodes / 2; after++) {
                int one = (node * 5 + turn) % nodes;
                int other = (one + after) % nodes;
                if (y.edge(one, other, 0) == 1) {
                    both("match", () -> x.match(one, other), () -> y.match(one, other));
                }
            }
        }
    }

    private void both(String what, Check.Call mine, Check.Call theirs) {
        Check.due(name + what, Check.answer(mine), Check.answer(theirs));
    }

    private int drawNode() {
        return random.nextInt(40) == 0 ? random.nextInt(16) - 2 : random.nextInt(Math.max(x.count(0), 2));
    }

    private void edit() {
        int one = drawNode();
        int other = drawNode();
        int kind = random.nextInt(300);
        boolean on = random.nextInt(5) < 3;
        String nodes = " " + one + " " + other;
        if (kind < 110) {
            both("setEdge" + nodes, () -> x.setEdge(one, other, on), () -> y.setEdge(one, other, on));
        } else if (kind < 170) {
            both("match" + nodes, () -> x.match(one, other), () -> y.match(one, other));
        } else if (kind < 200) {
            both("unmatch" + nodes, () -> x.unmatch(one), () -> y.unmatch(one));
        } else if (kind < 240) {
            both("augment" + nodes, () -> x.augment(one), () -> y.augment(one));
        } else if (kind < 247) {
            both("maximize", x::maximize, y::maximize);
        } else if (kind < 254) {
            both("takeFirst", x::takeFirst, y::takeFirst);
        } else if (kind < 298) {
            both("undo", x::undo, y::undo);
        } else {
            int count = 1 + random.nextInt(most + 1);
            both("begin " + count, () -> x.begin(count), () -> y.begin(count));
        }
    }

    private void type() {
        int kind = random.nextInt(20);
        if (kind == 0) {
            both("clearInput", x::clearInput, y::clearInput);
        } else if (kind < 4) {
            both("load", x::load, y::load);
        } else if (kind < 6) {
            both("firstError", x::firstError, y::firstError);
        } else if (kind < 8) {
            int code = random.nextInt(140) - 3;
            both("append " + code, () -> x.append(code), () -> y.append(code));
        } else {
            typeEdge();
        }
    }

    private void typeEdge() {
        int one = random.nextInt(Math.max(x.count(0), 2));
        int other = random.nextInt(Math.max(x.count(0), 2));
        String word = "" + (char) ('a' + Math.min(one, other)) + (char) ('a' + Math.max(one, other));
        String text = (random.nextInt(3) > 0 ? "," : "") + word + (random.nextBoolean() ? "!" : "");
        if (x.firstError() == 0) {
            text = word;
        }
        for (char code : text.toCharArray()) {
            both("append " + code, () -> x.append(code), () -> y.append(code));
        }
    }

    private void look() {
        int one = drawNode();
        int other = drawNode();
        int what = random.nextInt(14) - 1;
        boolean flag = random.nextBoolean();
        String asked = " " + one + " " + other + " " + what + " " + flag;
        switch (random.nextInt(13)) {
            case 0 -> both("way" + asked, () -> x.way(one), () -> y.way(one));
            case 1 -> both("wayNode" + asked, () -> x.wayNode(one, what), () -> y.wayNode(one, what));
            case 2 -> both("reach" + asked, () -> x.reach(one, flag), () -> y.reach(one, flag));
            case 3 -> both("oddCycle", x::oddCycle, y::oddCycle);
            case 4 -> both("firstMate" + asked, () -> x.firstMate(one), () -> y.firstMate(one));
            case 5 -> both("proof", x::proof, y::proof);
            case 6 -> {
                int set = random.nextInt(1 << Math.min(x.count(0) + 1, 12)) - 3;
                both("components " + set, () -> x.components(set, flag), () -> y.components(set, flag));
            }
            case 7 -> both("ifChanged" + asked, () -> x.ifChanged(one, other), () -> y.ifChanged(one, other));
            case 8 -> both("node" + asked, () -> x.node(one, what % 6), () -> y.node(one, what % 6));
            case 9 -> both("edge" + asked, () -> x.edge(one, other, what % 4), () -> y.edge(one, other, what % 4));
            case 10 -> both("count" + asked, () -> x.count(what), () -> y.count(what));
            case 11 -> both("difference" + asked, () -> x.difference(what % 3), () -> y.difference(what % 3));
            default -> both("meanUse", x::meanUse, y::meanUse);
        }
    }
}
