/**
 * Each sentence of the document that names a boundary case, with a test of its own: the least and
 * the greatest value that is taken, the first value outside on each side, the least and the
 * greatest int, the empty and the full graph. That a refused call changes nothing is the matter of
 * RefusedCallsTest.
 */
public final class BoundariesTest {
    private static final int BAD_ARG = -1;
    private static final int FULL = -2;
    private static final int NONE = -4;
    private static final int MIN = Integer.MIN_VALUE;
    private static final int MAX = Integer.MAX_VALUE;
    private static final int[] NO_FOREST_COUNTS = {MIN, -1, 17, MAX};

    private static String sentence = "";
    private static int sentences = 0;
    private static int wrong = 0;

    private static void begin(String words) {
        sentence = words;
        sentences++;
    }

    private static void due(String call, int got, int want) {
        if (got != want) {
            wrong++;
            System.out.println(sentence + ": " + call + " answered " + got + ", due is " + want);
        }
    }

    private static void due(String call, boolean got, boolean want) {
        if (got != want) {
            wrong++;
            System.out.println(sentence + ": " + call + " answered " + got + ", due is " + want);
        }
    }

    private static ForestPacker graph(int vertices, int... ends) {
        ForestPacker x = new ForestPacker(vertices);
        for (int i = 0; i < ends.length; i += 2) {
            x.edge(ends[i], ends[i + 1]);
        }
        return x;
    }

    private static ForestPacker parallel(int vertices, int u, int v, int count) {
        ForestPacker x = new ForestPacker(vertices);
        for (int e = 0; e < count; e++) {
            x.edge(e % 2 == 0 ? u : v, e % 2 == 0 ? v : u);
        }
        return x;
    }

    /** Edges 0-1, 1-2, .. again and again from the start, count of them. */
    private static ForestPacker paths(int vertices, int count) {
        ForestPacker x = new ForestPacker(vertices);
        for (int e = 0; e < count; e++) {
            int u = e % (vertices - 1);
            x.edge(u, u + 1);
        }
        return x;
    }

    private static int[] noVertices(int vertices) {
        return new int[] {MIN, -1, vertices, MAX};
    }

    // ---- What it is

    private static final int METHODS = 14;

    /** A right answer of a method on the graph 0-1, 0-1, 1-2 of 4 vertices; it changes nothing. */
    private static void callAndCheck(ForestPacker x, int method, String when) {
        switch (method) {
            case 0 -> due("vertices()" + when, x.vertices(), 4);
            case 1 -> due("edge(0, 0)" + when, x.edge(0, 0), BAD_ARG);
            case 2 -> due("rejoin(2, 2, 1)" + when, x.rejoin(2, 2, 1), 0);
            case 3 -> due("edges()" + when, x.edges(), 3);
            case 4 -> due("between(1, 0)" + when, x.between(1, 0), 2);
            case 5 -> due("hold(1)" + when, x.hold(1), 2);
            case 6 -> due("needed()" + when, x.needed(), 2);
            case 7 -> due("trees()" + when, x.trees(), 0);
            case 8 -> due("firm(1)" + when, x.firm(1), 1);
            case 9 -> due("isFirm(2, 1)" + when, x.isFirm(2, 1), true);
            case 10 -> due("welcome(0, 3, 1)" + when, x.welcome(0, 3, 1), true);
            case 11 -> due("room(1)" + when, x.room(1), 3);
            case 12 -> due("parts()" + when, x.parts(), 2);
            default -> due("hold(17)" + when, x.hold(17), BAD_ARG);
        }
    }

    private static void lastOf512Questions() {
        begin("at most 512 calls: the last of 512 questions answers as the first");
        for (int method = 0; method < METHODS; method++) {
            ForestPacker same = graph(4, 0, 1, 0, 1, 1, 2);
            ForestPacker mixed = graph(4, 0, 1, 0, 1, 1, 2);
            for (int call = 4; call <= 512; call++) {
                callAndCheck(same, method, " as call " + call);
                callAndCheck(mixed, (call + method) % METHODS, " as mixed call " + call);
            }
        }
    }

    private static void lastOf512Changes() {
        begin("at most 512 calls: the last of 512 changes is made as the first");
        ForestPacker added = new ForestPacker(7);
        for (int call = 1; call <= 512; call += 2) {
            due("edge(5, 6) as call " + call, added.edge(5, 6), 0);
            due("unedge() as call " + (call + 1), added.unedge(), 0);
        }
        ForestPacker filled = new ForestPacker(2);
        for (int call = 1; call <= 512; call++) {
            int phase = (call - 1) % 34;
            if (phase < 17) {
                due("edge(0, 1) as call " + call, filled.edge(0, 1), phase == 16 ? FULL : phase);
            } else {
                due("unedge() as call " + call, filled.unedge(), phase == 33 ? NONE : 32 - phase);
            }
        }
        ForestPacker moved = graph(7, 0, 1);
        for (int call = 2; call < 512; call += 2) {
            int v = 1 + call / 2 % 6;
            due("rejoin as call " + call, moved.rejoin(0, v, 0), 0);
            due("between(0, " + v + ") as call " + (call + 1), moved.between(0, v), 1);
        }
        due("rejoin as call 512", moved.rejoin(0, 5, 6), 0);
    }

    // ---- Terms

    private static void numberedInOrder() {
        begin("edges are numbered 0, 1, .. in the order in which they were added");
        for (int vertices = 2; vertices <= 7; vertices++) {
            ForestPacker x = new ForestPacker(vertices);
            for (int e = 0; e < 16; e++) {
                int u = e % vertices;
                due("edge of " + vertices, x.edge(u, (u + 1) % vertices), e);
            }
        }
        ForestPacker x = graph(4, 0, 1, 1, 2, 2, 3);
        due("rejoin(1, 0, 3)", x.rejoin(1, 0, 3), 0);
        due("between(1, 2), edge 1 was", x.between(1, 2), 0);
        due("between(0, 1), edge 0 is", x.between(0, 1), 1);
        due("between(2, 3), edge 2 is", x.between(2, 3), 1);
        due("unedge()", x.unedge(), 2);
        due("edge(1, 2) takes the number again", x.edge(1, 2), 2);
    }

    private static void atMost16() {
        begin("at most 16 edges");
        for (int vertices = 2; vertices <= 7; vertices++) {
            ForestPacker x = paths(vertices, 15);
            due("the 16th edge", x.edge(0, 1), 15);
            due("the 17th edge", x.edge(0, 1), FULL);
            due("the 17th edge again", x.edge(vertices - 1, 0), FULL);
            due("edges()", x.edges(), 16);
            due("unedge()", x.unedge(), 15);
            due("the 16th edge after unedge", x.edge(0, vertices - 1), 15);
            due("the 17th edge after unedge", x.edge(0, vertices - 1), FULL);
        }
    }

    private static void differentVertices() {
        begin("an edge joins two different vertices");
        for (int vertices = 2; vertices <= 7; vertices++) {
            ForestPacker x = graph(vertices, 0, 1);
            for (int v = 0; v < vertices; v++) {
                due("edge(" + v + ", " + v + ")", x.edge(v, v), BAD_ARG);
                due("rejoin(0, " + v + ", " + v + ")", x.rejoin(0, v, v), BAD_ARG);
                due("welcome(" + v + ", " + v + ", 16)", x.welcome(v, v, 16), false);
                due("between(" + v + ", " + v + ")", x.between(v, v), 0);
            }
            due("edges()", x.edges(), 1);
        }
    }

    private static void severalJoinTheSame() {
        begin("several edges may join the same two");
        for (int vertices = 2; vertices <= 7; vertices++) {
            for (int u = 0; u < vertices; u++) {
                ForestPacker x = new ForestPacker(vertices);
                int v = (u + 1) % vertices;
                for (int e = 0; e < 16; e++) {
                    due("edge", e % 2 == 0 ? x.edge(u, v) : x.edge(v, u), e);
                    due("between", x.between(u, v), e + 1);
                }
            }
        }
        ForestPacker moved = graph(3, 0, 1, 1, 2);
        due("rejoin(1, 1, 0)", moved.rejoin(1, 1, 0), 0);
        due("between(0, 1) after rejoin", moved.between(0, 1), 2);
    }

    private static void twoEdgesAreACycle() {
        begin("two edges between the same vertices are a cycle");
        for (int vertices = 2; vertices <= 7; vertices++) {
            int last = vertices - 1;
            ForestPacker x = graph(vertices, 0, last, last, 0);
            due("hold(1)", x.hold(1), 1);
            due("hold(2)", x.hold(2), 2);
            due("needed()", x.needed(), 2);
            due("isFirm(0, 1)", x.isFirm(0, 1), false);
            due("isFirm(1, 2)", x.isFirm(1, 2), true);
            due("welcome(0, last, 1)", x.welcome(0, last, 1), false);
            due("welcome(0, last, 2)", x.welcome(0, last, 2), false);
            due("welcome(0, last, 3)", x.welcome(0, last, 3), true);
        }
    }

    private static void treeOfAllButOne() {
        begin("a spanning tree is a forest of N - 1 edges");
        for (int vertices = 2; vertices <= 7; vertices++) {
            int size = vertices - 1;
            for (int count = 0; count <= 16; count++) {
                due("trees() of " + vertices + " with " + count, paths(vertices, count).trees(),
                        count / size);
            }
        }
        due("trees() of N - 1 edges with a cycle", graph(4, 0, 1, 1, 2, 2, 0).trees(), 0);
        due("trees() of N edges with a cycle", graph(4, 0, 1, 1, 2, 2, 0, 0, 3).trees(), 1);
    }

    private static void noForestHoldsNothing() {
        begin("HOLD(k) is 0 for k = 0");
        int[] counts = {0, 1, 15, 16};
        for (int vertices = 2; vertices <= 7; vertices++) {
            for (int count : counts) {
                ForestPacker x = paths(vertices, count);
                due("hold(0)", x.hold(0), 0);
                due("firm(0)", x.firm(0), 0);
                due("room(0)", x.room(0), 0);
                due("welcome(0, 1, 0)", x.welcome(0, 1, 0), false);
                due("welcome(last, 0, 0)", x.welcome(vertices - 1, 0, 0), false);
                due("isFirm(0, 0)", x.isFirm(0, 0), false);
                due("isFirm(last, 0)", x.isFirm(count - 1, 0), false);
            }
        }
    }

    private static final int[] ODD = {MIN, MIN + 1, -65536, -17, -16, -2, -1, 0, 1, 2, 6, 7, 8, 15,
        16, 17, 256, 65536, 1 << 30, MAX - 1, MAX};

    private static void callAll(int vertices, int count, int a, int b) {
        ForestPacker x = paths(Math.max(2, Math.min(7, vertices)), count);
        x.vertices();
        x.edges();
        x.between(a, b);
        x.hold(a);
        x.needed();
        x.trees();
        x.firm(a);
        x.isFirm(a, b);
        x.room(a);
        x.parts();
        for (int c : ODD) {
            x.welcome(a, b, c);
            x.rejoin(a, b, c);
        }
        x.edge(a, b);
        x.needed();
        for (int i = 0; i < 18; i++) {
            x.unedge();
        }
        x.parts();
        new ForestPacker(a).welcome(0, 1, b);
    }

    private static void nothingThrown() {
        begin("no call ever throws");
        int[] counts = {0, 1, 15, 16};
        for (int vertices = 2; vertices <= 5; vertices += 3) {
            for (int count : counts) {
                for (int a : ODD) {
                    callAllOdd(vertices, count, a);
                }
            }
        }
        callAllOdd(7, 16, 16);
        callAllOdd(7, 16, 6);
    }

    private static void callAllOdd(int vertices, int count, int a) {
        for (int b : ODD) {
            try {
                callAll(vertices, count, a, b);
            } catch (Throwable thrown) {
                wrong++;
                System.out.println(sentence + ": " + vertices + " vertices, " + count
                        + " edges, arguments " + a + ", " + b + ": " + thrown);
            }
        }
    }

    private static void constants() {
        begin("the constants");
        due("BAD_ARG", ForestPacker.BAD_ARG, BAD_ARG);
        due("FULL", ForestPacker.FULL, FULL);
        due("NONE", ForestPacker.NONE, NONE);
    }

    // ---- Promise 1

    private static void newHasNoEdge() {
        begin("1: a new object has no edge");
        int[] asked = {MIN, 1, 2, 3, 4, 5, 6, 7, 8, MAX};
        for (int vertices : asked) {
            ForestPacker x = new ForestPacker(vertices);
            int n = Math.max(2, Math.min(7, vertices));
            due("edges()", x.edges(), 0);
            due("unedge()", x.unedge(), NONE);
            due("parts()", x.parts(), n);
            due("needed()", x.needed(), 0);
            due("trees()", x.trees(), 0);
            due("hold(16)", x.hold(16), 0);
            due("firm(16)", x.firm(16), 0);
            due("room(1)", x.room(1), n * (n - 1) / 2);
            due("isFirm(0, 1)", x.isFirm(0, 1), false);
            due("rejoin(0, 0, 1)", x.rejoin(0, 0, 1), BAD_ARG);
            for (int u = 0; u < n; u++) {
                for (int v = 0; v < n; v++) {
                    due("between(" + u + ", " + v + ")", x.between(u, v), 0);
                }
            }
            due("edge(1, 0)", x.edge(1, 0), 0);
        }
    }

    /** The object made with asked has vertices 0 to n - 1 and no more. */
    private static void hasVertices(int asked, int n) {
        String made = "new ForestPacker(" + asked + ")";
        ForestPacker x = new ForestPacker(asked);
        due(made + ".vertices()", x.vertices(), n);
        due(made + ".parts()", x.parts(), n);
        due(made + ".edge(0, n)", x.edge(0, n), BAD_ARG);
        due(made + ".edge(n, 0)", x.edge(n, 0), BAD_ARG);
        due(made + ".edge(0, n - 1)", x.edge(0, n - 1), 0);
        due(made + ".welcome(0, n, 2)", x.welcome(0, n, 2), false);
        due(made + ".welcome(0, n - 1, 2)", x.welcome(0, n - 1, 2), true);
        due(made + ".room(2)", x.room(2), n * (n - 1) / 2);
        due(made + ".parts() with an edge", x.parts(), n - 1);
    }

    private static void belowTwo() {
        begin("1: vertices below 2 become 2");
        int[] below = {MIN, MIN + 1, MIN + 5, -65531, -251, -7, -3, -2, -1, 0, 1};
        for (int asked : below) {
            hasVertices(asked, 2);
        }
        hasVertices(2, 2);
        hasVertices(3, 3);
    }

    private static void aboveSeven() {
        begin("1: vertices above 7 become 7");
        int[] above = {8, 9, 16, 17, 255, 256, 259, 65536, 65539, 1 << 30, MAX - 1, MAX};
        for (int asked : above) {
            hasVertices(asked, 7);
        }
        hasVertices(7, 7);
        hasVertices(6, 6);
    }

    // ---- Promise 2

    private static void verticesStay() {
        begin("2: vertices is N, whatever the edges are");
        for (int vertices = 2; vertices <= 7; vertices++) {
            ForestPacker x = new ForestPacker(vertices);
            for (int call = 0; call < 18; call++) {
                due("vertices() with edges", x.vertices(), vertices);
                x.edge(0, vertices - 1);
            }
            for (int call = 0; call < 18; call++) {
                due("vertices() while edges go", x.vertices(), vertices);
                x.unedge();
            }
            due("vertices() without edges", x.vertices(), vertices);
        }
    }

    // ---- Promise 3

    private static void edgeOfVertices() {
        begin("3, edge: u or v not 0 to N - 1 answers BAD_ARG");
        for (int vertices = 2; vertices <= 7; vertices++) {
            int last = vertices - 1;
            ForestPacker x = new ForestPacker(vertices);
            due("edge(0, last)", x.edge(0, last), 0);
            due("edge(last, 0)", x.edge(last, 0), 1);
            for (int b : noVertices(vertices)) {
                due("edge(" + b + ", 0)", x.edge(b, 0), BAD_ARG);
                due("edge(" + b + ", last)", x.edge(b, last), BAD_ARG);
                due("edge(0, " + b + ")", x.edge(0, b), BAD_ARG);
                due("edge(last, " + b + ")", x.edge(last, b), BAD_ARG);
                due("edge(" + b + ", " + b + ")", x.edge(b, b), BAD_ARG);
            }
            due("edge(-1, N)", x.edge(-1, vertices), BAD_ARG);
            due("edge(N, -1)", x.edge(vertices, -1), BAD_ARG);
            due("edge(0, last) after refused ones", x.edge(0, last), 2);
        }
    }

    private static void edgeOfTheSame() {
        begin("3, edge: u and v the same answers BAD_ARG");
        for (int vertices = 2; vertices <= 7; vertices++) {
            for (int v = 0; v < vertices; v++) {
                due("edge(" + v + ", " + v + ")", new ForestPacker(vertices).edge(v, v), BAD_ARG);
                int next = (v + 1) % vertices;
                due("edge(" + v + ", next)", new ForestPacker(vertices).edge(v, next), 0);
            }
        }
    }

    private static void edgeOrder() {
        begin("3, edge: BAD_ARG is tested before FULL");
        for (int vertices = 2; vertices <= 7; vertices++) {
            ForestPacker x = paths(vertices, 16);
            due("edge(0, 1)", x.edge(0, 1), FULL);
            for (int b : noVertices(vertices)) {
                due("edge(" + b + ", 0)", x.edge(b, 0), BAD_ARG);
                due("edge(0, " + b + ")", x.edge(0, b), BAD_ARG);
                due("edge(" + b + ", " + b + ")", x.edge(b, b), BAD_ARG);
            }
            for (int v = 0; v < vertices; v++) {
                due("edge(" + v + ", " + v + ")", x.edge(v, v), BAD_ARG);
            }
        }
    }

    private static void edgeFull() {
        begin("3, edge: FULL, for every pair and at no fewer than 16 edges");
        for (int vertices = 2; vertices <= 7; vertices++) {
            ForestPacker full = paths(vertices, 16);
            for (int u = 0; u < vertices; u++) {
                for (int v = 0; v < vertices; v++) {
                    if (u != v) {
                        due("edge(" + u + ", " + v + ")", full.edge(u, v), FULL);
                        int number = paths(vertices, 15).edge(u, v);
                        due("edge(" + u + ", " + v + ") as the 16th", number, 15);
                    }
                }
            }
        }
    }

    // ---- Promise 4

    private static void unedgeNone() {
        begin("4, unedge: NONE if there is none");
        for (int vertices = 2; vertices <= 7; vertices++) {
            ForestPacker x = new ForestPacker(vertices);
            due("unedge() of a new object", x.unedge(), NONE);
            due("unedge() again", x.unedge(), NONE);
            due("edge(0, 1) after it", x.edge(0, 1), 0);
            due("unedge() of one edge", x.unedge(), 0);
            due("unedge() of none", x.unedge(), NONE);
            due("edges() of none", x.edges(), 0);
            due("edge(1, 0) after it", x.edge(1, 0), 0);
        }
    }

    private static void unedgeFromFull() {
        begin("4, unedge: removes the edge with the highest number, from 15 to 0");
        for (int vertices = 2; vertices <= 7; vertices++) {
            ForestPacker x = paths(vertices, 16);
            for (int e = 15; e >= 0; e--) {
                int u = e % (vertices - 1);
                int beside = e / (vertices - 1);
                due("between() with edge " + e, x.between(u, u + 1), beside + 1);
                due("unedge()", x.unedge(), e);
                due("between() without edge " + e, x.between(u, u + 1), beside);
                due("edges()", x.edges(), e);
            }
            due("unedge() of none", x.unedge(), NONE);
            due("parts() of none", x.parts(), vertices);
        }
    }

    // ---- Promise 5

    private static void rejoinNoEdge() {
        begin("5, rejoin: BAD_ARG if there is no edge e");
        for (int count = 0; count <= 16; count++) {
            ForestPacker x = paths(3, count);
            int[] none = {MIN, -1, count, count + 1, 16, 17, MAX};
            for (int e : none) {
                due("rejoin(" + e + ", 0, 2) of " + count, x.rejoin(e, 0, 2), BAD_ARG);
            }
            due("between(0, 2) after refused ones", x.between(0, 2), 0);
            for (int e = 0; e < count; e++) {
                due("rejoin(" + e + ", 0, 2) of " + count, x.rejoin(e, 0, 2), 0);
                due("between(0, 2) then", x.between(0, 2), e + 1);
            }
        }
        ForestPacker less = paths(3, 16);
        less.unedge();
        due("rejoin(15, 0, 1) of the removed one", less.rejoin(15, 0, 1), BAD_ARG);
        due("rejoin(14, 0, 1) of the last one", less.rejoin(14, 0, 1), 0);
    }

    private static void rejoinNoVertex() {
        begin("5, rejoin: BAD_ARG if u or v not 0 to N - 1");
        for (int vertices = 2; vertices <= 7; vertices++) {
            int last = vertices - 1;
            ForestPacker x = graph(vertices, 0, 1, 1, 0);
            for (int b : noVertices(vertices)) {
                due("rejoin(0, " + b + ", 0)", x.rejoin(0, b, 0), BAD_ARG);
                due("rejoin(1, " + b + ", last)", x.rejoin(1, b, last), BAD_ARG);
                due("rejoin(0, 0, " + b + ")", x.rejoin(0, 0, b), BAD_ARG);
                due("rejoin(1, last, " + b + ")", x.rejoin(1, last, b), BAD_ARG);
                due("rejoin(1, " + b + ", " + b + ")", x.rejoin(1, b, b), BAD_ARG);
            }
            due("between(0, 1) after refused ones", x.between(0, 1), 2);
            due("rejoin(0, 0, last)", x.rejoin(0, 0, last), 0);
            due("rejoin(1, last, 0)", x.rejoin(1, last, 0), 0);
            due("between(0, last)", x.between(0, last), 2);
        }
    }

    private static void rejoinTheSame() {
        begin("5, rejoin: BAD_ARG if u and v are the same");
        for (int vertices = 2; vertices <= 7; vertices++) {
            ForestPacker x = parallel(vertices, 0, 1, 16);
            for (int v = 0; v < vertices; v++) {
                due("rejoin(0, " + v + ", " + v + ")", x.rejoin(0, v, v), BAD_ARG);
                due("rejoin(15, " + v + ", " + v + ")", x.rejoin(15, v, v), BAD_ARG);
            }
            due("between(0, 1)", x.between(0, 1), 16);
            due("needed()", x.needed(), 16);
        }
    }

    private static void rejoinAnswersZero() {
        begin("5, rejoin: otherwise 0, also to the vertices it joins already and if full");
        for (int vertices = 2; vertices <= 7; vertices++) {
            ForestPacker x = paths(vertices, 16);
            for (int e = 0; e < 16; e++) {
                int u = e % (vertices - 1);
                due("rejoin to the same", x.rejoin(e, u, u + 1), 0);
                due("rejoin turned", x.rejoin(e, u + 1, u), 0);
            }
            due("edges()", x.edges(), 16);
            due("trees()", x.trees(), 16 / (vertices - 1));
        }
    }

    // ---- Promise 6

    private static void askMuch(ForestPacker x) {
        x.welcome(0, 2, 16);
        x.welcome(2, 0, 1);
        x.room(1);
        x.room(16);
        x.isFirm(0, 1);
        x.firm(16);
        x.hold(16);
        x.needed();
        x.trees();
        x.parts();
    }

    private static void edgesFromNoneToFull() {
        begin("6: edges is 0 to 16");
        ForestPacker x = new ForestPacker(3);
        for (int count = 0; count <= 16; count++) {
            due("edges() going up", x.edges(), count);
            askMuch(x);
            due("edges() after questions", x.edges(), count);
            due("between(0, 2) after questions", x.between(0, 2), 0);
            x.edge(1, 0);
        }
        due("edges() after FULL", x.edges(), 16);
        x.edge(0, 3);
        x.rejoin(16, 0, 1);
        due("edges() after other refused calls", x.edges(), 16);
        for (int count = 16; count >= 0; count--) {
            due("edges() going down", x.edges(), count);
            x.unedge();
        }
        due("edges() after NONE", x.edges(), 0);
    }

    // ---- Promise 7

    private static void betweenNoVertices() {
        begin("7, between: 0 if there are no such vertices");
        for (int vertices = 2; vertices <= 7; vertices++) {
            int last = vertices - 1;
            ForestPacker x = parallel(vertices, 0, last, 16);
            due("between(0, last)", x.between(0, last), 16);
            due("between(last, 0)", x.between(last, 0), 16);
            for (int b : noVertices(vertices)) {
                due("between(" + b + ", 0)", x.between(b, 0), 0);
                due("between(" + b + ", last)", x.between(b, last), 0);
                due("between(0, " + b + ")", x.between(0, b), 0);
                due("between(last, " + b + ")", x.between(last, b), 0);
                due("between(" + b + ", " + b + ")", x.between(b, b), 0);
            }
            due("between(-1, N)", x.between(-1, vertices), 0);
        }
    }

    private static void betweenOfOne() {
        begin("7, between: no edge joins a vertex with itself");
        for (int vertices = 2; vertices <= 7; vertices++) {
            ForestPacker empty = new ForestPacker(vertices);
            ForestPacker full = paths(vertices, 16);
            for (int v = 0; v < vertices; v++) {
                due("between(" + v + ", " + v + ") if empty", empty.between(v, v), 0);
                due("between(" + v + ", " + v + ") if full", full.between(v, v), 0);
            }
        }
    }

    private static void betweenCountsNoOther() {
        begin("7, between: neither a removed edge nor one that welcome tried is counted");
        ForestPacker x = graph(3, 0, 1, 0, 2);
        x.unedge();
        due("between(0, 2) of the removed one", x.between(0, 2), 0);
        x.welcome(1, 2, 1);
        due("between(1, 2) after welcome", x.between(1, 2), 0);
        ForestPacker full = parallel(3, 0, 1, 16);
        full.welcome(1, 2, 1);
        due("between(1, 2) after welcome if full", full.between(1, 2), 0);
        due("between(0, 1) after welcome if full", full.between(0, 1), 16);
    }

    // ---- Promise 8

    private static void holdOutside() {
        begin("8, hold: BAD_ARG if k is not 0 to 16");
        for (int vertices = 2; vertices <= 7; vertices++) {
            for (int count = 0; count <= 16; count += 8) {
                ForestPacker x = parallel(vertices, vertices - 1, 0, count);
                for (int k : NO_FOREST_COUNTS) {
                    due("hold(" + k + ") of " + count, x.hold(k), BAD_ARG);
                }
                for (int k = 0; k <= 16; k++) {
                    due("hold(" + k + ") of " + count, x.hold(k), Math.min(k, count));
                }
            }
        }
    }

    private static void holdOfAllSizes() {
        begin("8, hold: from no edge to 16, of one path again and again");
        for (int vertices = 2; vertices <= 7; vertices++) {
            for (int count = 0; count <= 16; count++) {
                ForestPacker x = paths(vertices, count);
                for (int k = 0; k <= 16; k++) {
                    int want = Math.min(count, k * (vertices - 1));
                    due("hold(" + k + ") of " + count, x.hold(k), want);
                }
            }
        }
    }

    // ---- Promise 9

    private static void neededFromNoneToAll() {
        begin("9, needed: 0 without an edge, 16 for 16 edges that join the same");
        for (int vertices = 2; vertices <= 7; vertices++) {
            for (int count = 0; count <= 16; count++) {
                ForestPacker x = parallel(vertices, 0, vertices - 1, count);
                due("needed() of " + count + " parallel", x.needed(), count);
                int size = vertices - 1;
                int rounds = (count + size - 1) / size;
                due("needed() of " + count + " on paths", paths(vertices, count).needed(), rounds);
            }
        }
        ForestPacker x = graph(2, 0, 1);
        x.unedge();
        due("needed() after the last edge went", x.needed(), 0);
    }

    // ---- Promise 10

    private static void treesFromNoneToAll() {
        begin("10, trees: 0 without an edge or if a vertex is apart, 16 for two vertices");
        for (int count = 0; count <= 16; count++) {
            due("trees() of " + count, parallel(2, 0, 1, count).trees(), count);
        }
        for (int vertices = 3; vertices <= 7; vertices++) {
            due("trees() of none", new ForestPacker(vertices).trees(), 0);
            due("trees(), the last apart", parallel(vertices, 0, 1, 16).trees(), 0);
            due("trees(), the first apart", parallel(vertices, 1, 2, 16).trees(), 0);
        }
        ForestPacker x = paths(7, 12);
        due("trees() of two paths", x.trees(), 2);
        x.unedge();
        due("trees() of two paths less an edge", x.trees(), 1);
    }

    // ---- Promise 11

    private static void firmOutside() {
        begin("11, firm: BAD_ARG if k is not 0 to 16");
        for (int vertices = 2; vertices <= 6; vertices++) {
            for (int count = 0; count <= 16; count += 8) {
                ForestPacker x = parallel(vertices, 0, vertices - 1, count);
                for (int k : NO_FOREST_COUNTS) {
                    due("firm(" + k + ") of " + count, x.firm(k), BAD_ARG);
                }
                for (int k = 0; k <= 16; k++) {
                    due("firm(" + k + ") of " + count, x.firm(k), k >= count ? count : 0);
                }
            }
        }
        due("firm(16) of a full graph of 7", paths(7, 16).firm(16), 16);
        due("firm(17) of a full graph of 7", paths(7, 16).firm(17), BAD_ARG);
    }

    // ---- Promise 12

    private static void isFirmNoEdge() {
        begin("12, isFirm: false if there is no edge e");
        for (int count = 0; count <= 16; count++) {
            ForestPacker x = parallel(3, 0, 2, count);
            int[] none = {MIN, -1, count, count + 1, 16, 17, MAX};
            for (int e : none) {
                due("isFirm(" + e + ", 1) of " + count, x.isFirm(e, 1), false);
                due("isFirm(" + e + ", 16) of " + count, x.isFirm(e, 16), false);
            }
            for (int e = 0; e < count; e++) {
                due("isFirm(" + e + ", 16) of " + count, x.isFirm(e, 16), true);
            }
        }
        ForestPacker less = graph(3, 0, 1, 1, 2);
        less.unedge();
        due("isFirm(1, 1) of the removed one", less.isFirm(1, 1), false);
        less.welcome(0, 2, 1);
        due("isFirm(1, 1) after welcome", less.isFirm(1, 1), false);
    }

    private static void isFirmOutside() {
        begin("12, isFirm: false if k is not 0 to 16");
        ForestPacker x = parallel(2, 0, 1, 16);
        ForestPacker single = graph(7, 6, 0);
        for (int k : NO_FOREST_COUNTS) {
            due("isFirm(0, " + k + ") of 16", x.isFirm(0, k), false);
            due("isFirm(15, " + k + ") of 16", x.isFirm(15, k), false);
            due("isFirm(0, " + k + ") of one", single.isFirm(0, k), false);
        }
        for (int k = 0; k <= 16; k++) {
            due("isFirm(0, " + k + ") of 16", x.isFirm(0, k), k == 16);
            due("isFirm(15, " + k + ") of 16", x.isFirm(15, k), k == 16);
            due("isFirm(0, " + k + ") of one", single.isFirm(0, k), k >= 1);
        }
        due("isFirm(-1, -1)", x.isFirm(-1, -1), false);
        due("isFirm(16, 17)", x.isFirm(16, 17), false);
    }

    // ---- Promise 13

    private static void welcomeIfFull() {
        begin("13, welcome: also if there are 16 edges");
        for (int vertices = 3; vertices <= 7; vertices++) {
            ForestPacker x = parallel(vertices, 0, 1, 16);
            int last = vertices - 1;
            for (int k = 0; k <= 16; k++) {
                due("welcome(0, 1, " + k + ")", x.welcome(0, 1, k), false);
                due("welcome(0, last, " + k + ")", x.welcome(0, last, k), k >= 1);
                due("welcome(last, 1, " + k + ")", x.welcome(last, 1, k), k >= 1);
            }
            due("edges() after it", x.edges(), 16);
            due("hold(16) after it", x.hold(16), 16);
            due("parts() after it", x.parts(), vertices - 1);
            due("between(1, last) after it", x.between(1, last), 0);
            due("edge(1, last) after it", x.edge(1, last), FULL);
        }
        ForestPacker two = parallel(2, 0, 1, 15);
        due("welcome(0, 1, 15) of 15", two.welcome(0, 1, 15), false);
        due("welcome(1, 0, 16) of 15", two.welcome(1, 0, 16), true);
        two.edge(0, 1);
        due("welcome(1, 0, 16) of 16", two.welcome(1, 0, 16), false);
    }

    private static void welcomeNoVertex() {
        begin("13, welcome: false if u or v is not 0 to N - 1");
        for (int vertices = 2; vertices <= 7; vertices++) {
            int last = vertices - 1;
            for (int count = 0; count <= 1; count++) {
                ForestPacker x = parallel(vertices, 0, 1, count);
                for (int b : noVertices(vertices)) {
                    due("welcome(" + b + ", 0, 16)", x.welcome(b, 0, 16), false);
                    due("welcome(" + b + ", last, 16)", x.welcome(b, last, 16), false);
                    due("welcome(0, " + b + ", 16)", x.welcome(0, b, 16), false);
                    due("welcome(last, " + b + ", 16)", x.welcome(last, b, 16), false);
                    due("welcome(" + b + ", " + b + ", 16)", x.welcome(b, b, 16), false);
                }
                due("welcome(-1, N, 16)", x.welcome(-1, vertices, 16), false);
                due("welcome(0, last, 16)", x.welcome(0, last, 16), true);
                due("welcome(last, 0, 16)", x.welcome(last, 0, 16), true);
            }
        }
    }

    private static void welcomeTheSame() {
        begin("13, welcome: false if u and v are the same");
        for (int vertices = 2; vertices <= 7; vertices++) {
            for (int count = 0; count <= 16; count += 8) {
                ForestPacker x = parallel(vertices, 0, 1, count);
                for (int v = 0; v < vertices; v++) {
                    due("welcome(" + v + ", " + v + ", 1)", x.welcome(v, v, 1), false);
                    due("welcome(" + v + ", " + v + ", 16)", x.welcome(v, v, 16), false);
                }
            }
        }
    }

    private static void welcomeOutside() {
        begin("13, welcome: false if k is not 0 to 16");
        for (int vertices = 2; vertices <= 7; vertices++) {
            ForestPacker x = new ForestPacker(vertices);
            int last = vertices - 1;
            for (int k : NO_FOREST_COUNTS) {
                due("welcome(0, last, " + k + ")", x.welcome(0, last, k), false);
                due("welcome(1, 0, " + k + ")", x.welcome(1, 0, k), false);
            }
            for (int k = 0; k <= 16; k++) {
                due("welcome(0, last, " + k + ")", x.welcome(0, last, k), k >= 1);
            }
        }
    }

    // ---- Promise 14

    private static void roomOutside() {
        begin("14, room: BAD_ARG if k is not 0 to 16");
        for (int vertices = 2; vertices <= 7; vertices++) {
            int pairs = vertices * (vertices - 1) / 2;
            for (int count = 0; count <= 16; count += 16) {
                ForestPacker x = parallel(vertices, 0, vertices - 1, count);
                for (int k : NO_FOREST_COUNTS) {
                    due("room(" + k + ") of " + count, x.room(k), BAD_ARG);
                }
                int free = count == 0 ? pairs : pairs - 1;
                due("room(0) of " + count, x.room(0), 0);
                due("room(1) of " + count, x.room(1), free);
                due("room(15) of " + count, x.room(15), free);
                due("room(16) of " + count, x.room(16), free);
            }
        }
    }

    private static void roomPairsOnce() {
        begin("14, room: pairs u < v, each once, from none to all");
        for (int vertices = 2; vertices <= 7; vertices++) {
            int size = vertices - 1;
            ForestPacker x = new ForestPacker(vertices);
            for (int e = 0; e < size; e++) {
                // The path has joined e + 1 vertices: pairs among them gain nothing.
                int joined = (e + 1) * e / 2;
                due("room(1) with " + e, x.room(1), vertices * size / 2 - joined);
                x.edge(e, e + 1);
            }
            due("room(1) of a path", x.room(1), 0);
            due("room(2) of a path", x.room(2), vertices * size / 2);
        }
    }

    // ---- Promise 15

    private static void partsFromAllToOne() {
        begin("15, parts: N without an edge, 1 if all are joined");
        for (int vertices = 2; vertices <= 7; vertices++) {
            ForestPacker x = new ForestPacker(vertices);
            for (int v = vertices - 1; v > 0; v--) {
                due("parts()", x.parts(), v + 1);
                x.edge(v, v - 1);
            }
            due("parts() of a path", x.parts(), 1);
            x.edge(0, vertices - 1);
            due("parts() of a ring", x.parts(), 1);
            x.unedge();
            for (int v = 1; v < vertices; v++) {
                x.unedge();
                due("parts() going back", x.parts(), v + 1);
            }
        }
    }

    private static void partsOfFull() {
        begin("15, parts: a full graph may still fall apart");
        for (int vertices = 2; vertices <= 7; vertices++) {
            due("parts(), first two joined", parallel(vertices, 0, 1, 16).parts(), vertices - 1);
            ForestPacker last = parallel(vertices, vertices - 1, vertices - 2, 16);
            due("parts(), last two joined", last.parts(), vertices - 1);
            due("parts(), all joined", paths(vertices, 16).parts(), 1);
        }
    }

    private static void termsAndUse() {
        lastOf512Questions();
        lastOf512Changes();
        numberedInOrder();
        atMost16();
        differentVertices();
        severalJoinTheSame();
        twoEdgesAreACycle();
        treeOfAllButOne();
        noForestHoldsNothing();
        nothingThrown();
        constants();
    }

    private static void promises1To7() {
        newHasNoEdge();
        belowTwo();
        aboveSeven();
        verticesStay();
        edgeOfVertices();
        edgeOfTheSame();
        edgeOrder();
        edgeFull();
        unedgeNone();
        unedgeFromFull();
        rejoinNoEdge();
        rejoinNoVertex();
        rejoinTheSame();
        rejoinAnswersZero();
        edgesFromNoneToFull();
        betweenNoVertices();
        betweenOfOne();
        betweenCountsNoOther();
    }

    private static void promises8To15() {
        holdOutside();
        holdOfAllSizes();
        neededFromNoneToAll();
        treesFromNoneToAll();
        firmOutside();
        isFirmNoEdge();
        isFirmOutside();
        welcomeIfFull();
        welcomeNoVertex();
        welcomeTheSame();
        welcomeOutside();
        roomOutside();
        roomPairsOnce();
        partsFromAllToOne();
        partsOfFull();
    }

    public static void main(String[] args) {
        termsAndUse();
        promises1To7();
        promises8To15();
        System.out.println(sentences + " sentences: "
                + (wrong == 0 ? "all answers are as due" : wrong + " answers are not as due"));
        if (wrong != 0) {
            System.exit(1);
        }
    }
}
