import java.util.LinkedHashMap;
import java.util.List;
import java.util.Map;
import java.util.stream.Stream;

/**
 * "A refused call answers the code named and changes nothing": every way in which the document
 * refuses a call, on graphs from empty to full. All other methods are asked before the refused
 * call and after it, and then the edges are taken away one by one to see that each was as it was.
 */
public final class RefusedCallsTest {
    private static final int BAD_ARG = -1;
    private static final int FULL = -2;
    private static final int NONE = -4;
    private static final int FALSE = 0;
    private static final int FOREST_END = 17;
    private static final int[] SOME_FORESTS = {1, 3, 16};
    // On seven vertices each question takes long, and three forests are the telling number there.
    private static final int[] THREE_FORESTS = {3};

    private interface Call {
        int on(ForestPacker x);
    }

    /** ends: the two ends of each edge added; removed: how many of them are taken away again. */
    private record Graph(String name, int vertices, int removed, int... ends) {
        ForestPacker make() {
            ForestPacker x = new ForestPacker(vertices);
            for (int i = 0; i < ends.length; i += 2) {
                x.edge(ends[i], ends[i + 1]);
            }
            for (int i = 0; i < removed; i++) {
                x.unedge();
            }
            return x;
        }

        int count() {
            return ends.length / 2 - removed;
        }

        /** How many of the edges 0 to end - 1 join the same vertices as edge e. */
        int besideBefore(int e, int end) {
            int found = 0;
            for (int i = 0; i < end; i++) {
                boolean forward = ends[2 * i] == ends[2 * e] && ends[2 * i + 1] == ends[2 * e + 1];
                boolean backward = ends[2 * i] == ends[2 * e + 1] && ends[2 * i + 1] == ends[2 * e];
                found += forward || backward ? 1 : 0;
            }
            return found;
        }
    }

    private static final int[] MIXED_OF_FOUR = {
        0, 1, 1, 0, 3, 2, 0, 2, 0, 1, 2, 3, 1, 3, 0, 1, 3, 0, 1, 2, 0, 1, 2, 0, 1, 0, 3, 1, 0, 1, 2, 1};

    private static final List<Graph> EMPTY = List.of(
            new Graph("new of 2", 2, 0),
            new Graph("new of 7", 7, 0),
            new Graph("emptied of 3", 3, 3, 2, 1, 0, 1, 2, 0),
            new Graph("emptied from full of 4", 4, 16, MIXED_OF_FOUR));

    private static final List<Graph> SOME = List.of(
            new Graph("one edge of 2", 2, 0, 1, 0),
            new Graph("six edges of 5", 5, 0, 0, 1, 1, 2, 2, 0, 3, 0, 0, 3, 1, 2),
            new Graph("nine edges of 4, seven removed", 4, 7, MIXED_OF_FOUR),
            new Graph("fifteen edges of 4, one removed", 4, 1, MIXED_OF_FOUR));

    private static final List<Graph> FILLED = List.of(
            new Graph("full of 2", 2, 0, 0, 1, 1, 0, 0, 1, 0, 1, 1, 0, 1, 0, 0, 1, 1, 0,
                    0, 1, 1, 0, 0, 1, 0, 1, 1, 0, 1, 0, 0, 1, 1, 0),
            new Graph("full of 4", 4, 0, MIXED_OF_FOUR),
            new Graph("full of 7", 7, 0, 0, 1, 1, 2, 2, 3, 3, 4, 4, 5, 5, 6, 6, 0,
                    0, 2, 1, 3, 2, 4, 3, 5, 4, 6, 5, 0, 6, 1, 0, 3, 1, 4));

    private static String sentence = "";
    private static int refusals = 0;
    private static int wrong = 0;

    private static void due(String call, int got, int want) {
        if (got != want) {
            wrong++;
            System.out.println(sentence + ": " + call + " answered " + got + ", due is " + want);
        }
    }

    private static int asInt(boolean b) {
        return b ? 1 : 0;
    }

    private static List<Graph> all() {
        return Stream.of(EMPTY, SOME, FILLED).flatMap(List::stream).toList();
    }

    /**
     * Values that are not 0 to end - 1: the first on each side, the least and the greatest int, and
     * some that would look good to a program that kept only their lowest 8 or 16 bits.
     */
    private static int[] outside(int end) {
        return new int[] {Integer.MIN_VALUE, Integer.MIN_VALUE + 1, -65535, -255, -1,
            end, 256, 65537, Integer.MAX_VALUE};
    }

    // ---- what must be as before

    private static Map<String, Integer> answers(ForestPacker x) {
        Map<String, Integer> found = new LinkedHashMap<>();
        int[] forests = x.vertices() == 7 ? THREE_FORESTS : SOME_FORESTS;
        found.put("vertices()", x.vertices());
        found.put("edges()", x.edges());
        found.put("needed()", x.needed());
        found.put("trees()", x.trees());
        found.put("parts()", x.parts());
        for (int k = 0; k < FOREST_END; k++) {
            found.put("hold(" + k + ")", x.hold(k));
        }
        for (int k : forests) {
            found.put("firm(" + k + ")", x.firm(k));
            found.put("room(" + k + ")", x.room(k));
        }
        answersOfEdges(x, forests, found);
        answersOfPairs(x, forests, found);
        return found;
    }

    private static void answersOfEdges(ForestPacker x, int[] forests, Map<String, Integer> found) {
        int edges = Math.min(16, x.edges());
        for (int e = 0; e < edges; e++) {
            for (int k : forests) {
                found.put("isFirm(" + e + ", " + k + ")", asInt(x.isFirm(e, k)));
            }
        }
    }

    private static void answersOfPairs(ForestPacker x, int[] forests, Map<String, Integer> found) {
        int vertices = Math.min(7, x.vertices());
        for (int u = 0; u < vertices; u++) {
            for (int v = u + 1; v < vertices; v++) {
                found.put("between(" + u + ", " + v + ")", x.between(u, v));
                for (int k : forests) {
                    found.put("welcome(" + u + ", " + v + ", " + k + ")", asInt(x.welcome(u, v, k)));
                }
            }
        }
    }

    /** Takes all edges away: only so can the ends of each single edge be seen. */
    private static void takeApart(Graph g, ForestPacker x, String after) {
        int count = g.count();
        due("edge(0, 1)" + after, x.edge(0, 1), count == 16 ? FULL : count);
        if (count < 16) {
            due("unedge() of it" + after, x.unedge(), count);
        }
        for (int e = count - 1; e >= 0; e--) {
            int u = g.ends[2 * e];
            int v = g.ends[2 * e + 1];
            String pair = "between(" + u + ", " + v + ")";
            due(pair + " with edge " + e + after, x.between(u, v), g.besideBefore(e, e + 1));
            due("unedge()" + after, x.unedge(), e);
            due(pair + " without edge " + e + after, x.between(u, v), g.besideBefore(e, e));
        }
        due("unedge() of none" + after, x.unedge(), NONE);
    }

    private static void refuse(Graph g, String name, int code, Call call) {
        refusals++;
        ForestPacker x = g.make();
        Map<String, Integer> before = answers(x);
        due(g.name + ": " + name, call.on(x), code);
        String after = " after " + name + " on " + g.name;
        Map<String, Integer> now = answers(x);
        for (String question : before.keySet()) {
            due(question + after, now.getOrDefault(question, Integer.MIN_VALUE), before.get(question));
        }
        due("number of questions" + after, now.size(), before.size());
        takeApart(g, x, after);
    }

    // ---- promise 3

    private static void edgeOfNoVertex() {
        sentence = "3, edge: u or v not 0 to N - 1 answers BAD_ARG (also if full)";
        for (Graph g : all()) {
            int last = g.vertices - 1;
            for (int b : outside(g.vertices)) {
                refuse(g, "edge(" + b + ", 0)", BAD_ARG, x -> x.edge(b, 0));
                refuse(g, "edge(" + last + ", " + b + ")", BAD_ARG, x -> x.edge(last, b));
                refuse(g, "edge(" + b + ", " + b + ")", BAD_ARG, x -> x.edge(b, b));
            }
            refuse(g, "edge(-1, N)", BAD_ARG, x -> x.edge(-1, g.vertices));
        }
    }

    private static void edgeOfTheSame() {
        sentence = "3, edge: u and v the same answers BAD_ARG (also if full)";
        for (Graph g : all()) {
            for (int w = 0; w < g.vertices; w++) {
                int v = w;
                refuse(g, "edge(" + v + ", " + v + ")", BAD_ARG, x -> x.edge(v, v));
            }
        }
    }

    private static void edgeIfFull() {
        sentence = "3, edge: FULL";
        for (Graph g : FILLED) {
            int last = g.vertices - 1;
            refuse(g, "edge(0, 1)", FULL, x -> x.edge(0, 1));
            refuse(g, "edge(1, 0)", FULL, x -> x.edge(1, 0));
            refuse(g, "edge(0, " + last + ")", FULL, x -> x.edge(0, last));
            refuse(g, "edge(" + last + ", " + (last - 1) + ")", FULL, x -> x.edge(last, last - 1));
        }
    }

    // ---- promise 4

    private static void unedgeOfNone() {
        sentence = "4, unedge: NONE if there is none";
        for (Graph g : EMPTY) {
            refuse(g, "unedge()", NONE, ForestPacker::unedge);
            refuse(g, "unedge() again", NONE, x -> x.unedge() == NONE ? x.unedge() : 0);
        }
    }

    // ---- promise 5

    private static void rejoinOfNoEdge() {
        sentence = "5, rejoin: BAD_ARG if there is no edge e";
        for (Graph g : all()) {
            int last = g.vertices - 1;
            for (int e : outside(g.count())) {
                refuse(g, "rejoin(" + e + ", 0, 1)", BAD_ARG, x -> x.rejoin(e, 0, 1));
                refuse(g, "rejoin(" + e + ", " + last + ", 0)", BAD_ARG, x -> x.rejoin(e, last, 0));
            }
            refuse(g, "rejoin(16, 0, 1)", BAD_ARG, x -> x.rejoin(16, 0, 1));
            refuse(g, "rejoin(17, 0, 1)", BAD_ARG, x -> x.rejoin(17, 0, 1));
            refuse(g, "rejoin(-1, -1, -1)", BAD_ARG, x -> x.rejoin(-1, -1, -1));
        }
    }

    private static void rejoinToNoVertex() {
        sentence = "5, rejoin: BAD_ARG if u or v not 0 to N - 1";
        for (Graph g : all()) {
            int e = g.count() - 1;
            int last = g.vertices - 1;
            for (int b : outside(g.vertices)) {
                refuse(g, "rejoin(0, " + b + ", 0)", BAD_ARG, x -> x.rejoin(0, b, 0));
                refuse(g, "rejoin(0, " + last + ", " + b + ")", BAD_ARG, x -> x.rejoin(0, last, b));
                refuse(g, "rejoin(" + e + ", 1, " + b + ")", BAD_ARG, x -> x.rejoin(e, 1, b));
                refuse(g, "rejoin(" + e + ", " + b + ", " + b + ")", BAD_ARG, x -> x.rejoin(e, b, b));
            }
        }
    }

    private static void rejoinToTheSame() {
        sentence = "5, rejoin: BAD_ARG if u and v are the same";
        for (Graph g : all()) {
            int e = g.count() - 1;
            for (int w = 0; w < g.vertices; w++) {
                int v = w;
                refuse(g, "rejoin(0, " + v + ", " + v + ")", BAD_ARG, x -> x.rejoin(0, v, v));
                refuse(g, "rejoin(" + e + ", " + v + ", " + v + ")", BAD_ARG, x -> x.rejoin(e, v, v));
            }
        }
    }

    // ---- promise 7

    private static void betweenNoVertices() {
        sentence = "7, between: 0 if there are no such vertices";
        for (Graph g : all()) {
            for (int b : outside(g.vertices)) {
                refuse(g, "between(" + b + ", 0)", 0, x -> x.between(b, 0));
                refuse(g, "between(0, " + b + ")", 0, x -> x.between(0, b));
                refuse(g, "between(" + b + ", " + b + ")", 0, x -> x.between(b, b));
            }
        }
    }

    // ---- promises 8, 11 and 14

    private static void forestCountOutside() {
        for (Graph g : all()) {
            for (int k : outside(FOREST_END)) {
                sentence = "8, hold: BAD_ARG if k is not 0 to 16";
                refuse(g, "hold(" + k + ")", BAD_ARG, x -> x.hold(k));
                sentence = "11, firm: BAD_ARG if k is not 0 to 16";
                refuse(g, "firm(" + k + ")", BAD_ARG, x -> x.firm(k));
                sentence = "14, room: BAD_ARG if k is not 0 to 16";
                refuse(g, "room(" + k + ")", BAD_ARG, x -> x.room(k));
            }
        }
    }

    // ---- promise 12

    private static void isFirmOfNoEdge() {
        sentence = "12, isFirm: false if there is no edge e";
        for (Graph g : all()) {
            for (int e : outside(g.count())) {
                refuse(g, "isFirm(" + e + ", 1)", FALSE, x -> asInt(x.isFirm(e, 1)));
                refuse(g, "isFirm(" + e + ", 16)", FALSE, x -> asInt(x.isFirm(e, 16)));
            }
            refuse(g, "isFirm(16, 16)", FALSE, x -> asInt(x.isFirm(16, 16)));
            refuse(g, "isFirm(17, 16)", FALSE, x -> asInt(x.isFirm(17, 16)));
        }
    }

    private static void isFirmOfForestCountOutside() {
        sentence = "12, isFirm: false if k is not 0 to 16";
        for (Graph g : all()) {
            int last = g.count() - 1;
            for (int k : outside(FOREST_END)) {
                refuse(g, "isFirm(0, " + k + ")", FALSE, x -> asInt(x.isFirm(0, k)));
                refuse(g, "isFirm(" + last + ", " + k + ")", FALSE, x -> asInt(x.isFirm(last, k)));
            }
        }
    }

    // ---- promise 13

    private static void welcomeOfNoVertex() {
        sentence = "13, welcome: false if u or v is not 0 to N - 1";
        for (Graph g : all()) {
            int last = g.vertices - 1;
            for (int b : outside(g.vertices)) {
                refuse(g, "welcome(" + b + ", 0, 16)", FALSE, x -> asInt(x.welcome(b, 0, 16)));
                refuse(g, "welcome(" + last + ", " + b + ", 16)", FALSE,
                        x -> asInt(x.welcome(last, b, 16)));
            }
        }
    }

    private static void welcomeOfTheSame() {
        sentence = "13, welcome: false if u and v are the same";
        for (Graph g : all()) {
            for (int w = 0; w < g.vertices; w++) {
                int v = w;
                refuse(g, "welcome(" + v + ", " + v + ", 16)", FALSE, x -> asInt(x.welcome(v, v, 16)));
            }
        }
    }

    private static void welcomeOfForestCountOutside() {
        sentence = "13, welcome: false if k is not 0 to 16";
        for (Graph g : all()) {
            int last = g.vertices - 1;
            for (int k : outside(FOREST_END)) {
                refuse(g, "welcome(0, 1, " + k + ")", FALSE, x -> asInt(x.welcome(0, 1, k)));
                refuse(g, "welcome(" + last + ", 0, " + k + ")", FALSE,
                        x -> asInt(x.welcome(last, 0, k)));
            }
        }
    }

    public static void main(String[] args) {
        edgeOfNoVertex();
        edgeOfTheSame();
        edgeIfFull();
        unedgeOfNone();
        rejoinOfNoEdge();
        rejoinToNoVertex();
        rejoinToTheSame();
        betweenNoVertices();
        forestCountOutside();
        isFirmOfNoEdge();
        isFirmOfForestCountOutside();
        welcomeOfNoVertex();
        welcomeOfTheSame();
        welcomeOfForestCountOutside();
        System.out.println(refusals + " refused calls: "
                + (wrong == 0 ? "all answers are as due" : wrong + " answers are not as due"));
        if (wrong != 0) {
            System.exit(1);
        }
    }
}
