/** Each promise by hand: ordinary inputs, the edges that the document names, wrong inputs. */
public final class PromisesTest {
    private static final int BAD_ARG = -1;
    private static final int FULL = -2;
    private static final int NONE = -4;
    private static final int[] OUTSIDE = {Integer.MIN_VALUE, -1, 17, 18, Integer.MAX_VALUE};

    private static int wrong = 0;

    private static void due(String call, int got, int want) {
        if (got != want) {
            wrong++;
            System.out.println(call + " answered " + got + ", due is " + want);
        }
    }

    private static void due(String call, boolean got, boolean want) {
        if (got != want) {
            wrong++;
            System.out.println(call + " answered " + got + ", due is " + want);
        }
    }

    private static ForestPacker graph(int vertices, int... ends) {
        ForestPacker x = new ForestPacker(vertices);
        for (int i = 0; i + 1 < ends.length; i += 2) {
            due("edge in graph()", x.edge(ends[i], ends[i + 1]), i / 2);
        }
        return x;
    }

    private static ForestPacker parallel(int vertices, int count) {
        ForestPacker x = new ForestPacker(vertices);
        for (int e = 0; e < count; e++) {
            due("edge in parallel()", x.edge(e % 2, 1 - e % 2), e);
        }
        return x;
    }

    /** Two triangles that an edge, number 3, joins. */
    private static ForestPacker triangles() {
        return graph(6, 0, 1, 1, 2, 2, 0, 2, 3, 3, 4, 4, 5, 5, 3);
    }

    private static void promise1NewObject() {
        int[] asked = {Integer.MIN_VALUE, -1, 0, 1, 2, 3, 4, 5, 6, 7, 8, Integer.MAX_VALUE};
        int[] got = {2, 2, 2, 2, 2, 3, 4, 5, 6, 7, 7, 7};
        for (int i = 0; i < asked.length; i++) {
            String made = "1: new ForestPacker(" + asked[i] + ")";
            ForestPacker x = new ForestPacker(asked[i]);
            due(made + ".vertices()", x.vertices(), got[i]);
            due(made + ".edges()", x.edges(), 0);
            due(made + ".parts()", x.parts(), got[i]);
            due(made + ".needed()", x.needed(), 0);
            due(made + ".trees()", x.trees(), 0);
            due(made + ".hold(16)", x.hold(16), 0);
            due(made + ".firm(1)", x.firm(1), 0);
            due(made + ".unedge()", x.unedge(), NONE);
            due(made + ".room(1)", x.room(1), got[i] * (got[i] - 1) / 2);
        }
        due("1: BAD_ARG", ForestPacker.BAD_ARG, BAD_ARG);
        due("1: FULL", ForestPacker.FULL, FULL);
        due("1: NONE", ForestPacker.NONE, NONE);
    }

    private static void promise2Vertices() {
        ForestPacker x = triangles();
        due("2: vertices() with edges", x.vertices(), 6);
        x.edge(6, 0);
        x.unedge();
        due("2: vertices() after other calls", x.vertices(), 6);
    }

    private static void promise3Edge() {
        ForestPacker x = new ForestPacker(3);
        due("3: edge(0, 1)", x.edge(0, 1), 0);
        due("3: edge(1, 0)", x.edge(1, 0), 1);
        due("3: edge(2, 1)", x.edge(2, 1), 2);
        refuseEdges(x, 3);
        due("3: edges() after refused ones", x.edges(), 3);
        for (int e = 3; e < 16; e++) {
            due("3: edge " + e, x.edge(0, 2), e);
        }
        due("3: edge(0, 2) if full", x.edge(0, 2), FULL);
        due("3: edge(0, 1) if full", x.edge(0, 1), FULL);
        refuseEdges(x, 3);
        due("3: edges() if full", x.edges(), 16);
        due("3: between(0, 1)", x.between(0, 1), 2);
        due("3: between(1, 2)", x.between(1, 2), 1);
        due("3: between(0, 2)", x.between(0, 2), 13);
    }

    private static void refuseEdges(ForestPacker x, int vertices) {
        int[] bad = {Integer.MIN_VALUE, -1, vertices, 7, Integer.MAX_VALUE};
        for (int b : bad) {
            due("3: edge(" + b + ", 0)", x.edge(b, 0), BAD_ARG);
            due("3: edge(0, " + b + ")", x.edge(0, b), BAD_ARG);
            due("3: edge(" + b + ", " + b + ")", x.edge(b, b), BAD_ARG);
        }
        for (int v = 0; v < vertices; v++) {
            due("3: edge of " + v + " with itself", x.edge(v, v), BAD_ARG);
        }
    }

    private static void promise4Unedge() {
        ForestPacker x = graph(3, 0, 1, 1, 2, 0, 2);
        due("4: unedge() of three", x.unedge(), 2);
        due("4: between(0, 2) after it", x.between(0, 2), 0);
        due("4: between(1, 2) after it", x.between(1, 2), 1);
        due("4: unedge() of two", x.unedge(), 1);
        due("4: edges() after it", x.edges(), 1);
        due("4: edge(1, 2) takes the number again", x.edge(1, 2), 1);
        due("4: unedge() again", x.unedge(), 1);
        due("4: unedge() of one", x.unedge(), 0);
        due("4: unedge() of none", x.unedge(), NONE);
        due("4: unedge() of none again", x.unedge(), NONE);
        due("4: edges() of none", x.edges(), 0);
        due("4: edge(0, 1) after none", x.edge(0, 1), 0);
        ForestPacker full = parallel(2, 16);
        due("4: unedge() if full", full.unedge(), 15);
        due("4: edge(0, 1) after it", full.edge(0, 1), 15);
    }

    private static void promise5Rejoin() {
        ForestPacker x = graph(4, 0, 1, 1, 2, 2, 3);
        due("5: rejoin(1, 3, 0)", x.rejoin(1, 3, 0), 0);
        due("5: between(1, 2)", x.between(1, 2), 0);
        due("5: between(0, 3)", x.between(0, 3), 1);
        due("5: rejoin(1, 0, 3) to the same", x.rejoin(1, 0, 3), 0);
        due("5: between(0, 3) still", x.between(0, 3), 1);
        due("5: rejoin(2, 0, 1)", x.rejoin(2, 0, 1), 0);
        due("5: edges()", x.edges(), 3);
        due("5: between(0, 1)", x.between(0, 1), 2);
        int[] badEdges = {Integer.MIN_VALUE, -1, 3, 16, 17, Integer.MAX_VALUE};
        for (int b : badEdges) {
            due("5: rejoin(" + b + ", 1, 2)", x.rejoin(b, 1, 2), BAD_ARG);
        }
        int[] badVertices = {Integer.MIN_VALUE, -1, 4, 7, Integer.MAX_VALUE};
        for (int b : badVertices) {
            due("5: rejoin(0, " + b + ", 2)", x.rejoin(0, b, 2), BAD_ARG);
            due("5: rejoin(0, 2, " + b + ")", x.rejoin(0, 2, b), BAD_ARG);
        }
        due("5: rejoin(0, 2, 2)", x.rejoin(0, 2, 2), BAD_ARG);
        due("5: between(0, 1) after refused ones", x.between(0, 1), 2);
        due("5: between(1, 2) after refused ones", x.between(1, 2), 0);
        due("5: unedge() takes edge 2", x.unedge(), 2);
        due("5: between(0, 1) without edge 2", x.between(0, 1), 1);
        due("5: rejoin(2, 0, 1) of the removed one", x.rejoin(2, 0, 1), BAD_ARG);
        due("5: rejoin(0, 0, 1) of a new object", new ForestPacker(4).rejoin(0, 0, 1), BAD_ARG);
        ForestPacker full = parallel(3, 16);
        due("5: rejoin(15, 1, 2) if full", full.rejoin(15, 1, 2), 0);
        due("5: between(2, 1) if full", full.between(2, 1), 1);
    }

    private static void promise6Edges() {
        ForestPacker x = new ForestPacker(7);
        for (int e = 0; e < 16; e++) {
            due("6: edges()", x.edges(), e);
            x.edge(e % 7, (e + 1) % 7);
        }
        due("6: edges() if full", x.edges(), 16);
        x.welcome(0, 3, 2);
        x.room(3);
        x.firm(2);
        due("6: edges() after questions", x.edges(), 16);
        x.rejoin(3, 0, 6);
        due("6: edges() after rejoin", x.edges(), 16);
        x.unedge();
        due("6: edges() after unedge", x.edges(), 15);
    }

    private static void promise7Between() {
        ForestPacker x = graph(4, 0, 1, 1, 0, 0, 2);
        due("7: between(0, 1)", x.between(0, 1), 2);
        due("7: between(1, 0)", x.between(1, 0), 2);
        due("7: between(2, 0)", x.between(2, 0), 1);
        due("7: between(1, 2)", x.between(1, 2), 0);
        due("7: between(0, 0)", x.between(0, 0), 0);
        due("7: between(3, 3)", x.between(3, 3), 0);
        int[] bad = {Integer.MIN_VALUE, -1, 4, 7, Integer.MAX_VALUE};
        for (int b : bad) {
            due("7: between(0, " + b + ")", x.between(0, b), 0);
            due("7: between(" + b + ", 0)", x.between(b, 0), 0);
            due("7: between(" + b + ", " + b + ")", x.between(b, b), 0);
        }
        x.welcome(1, 2, 3);
        due("7: between(1, 2) after welcome(1, 2, 3)", x.between(1, 2), 0);
    }

    private static void promise8Hold() {
        ForestPacker x = triangles();
        due("8: hold(0)", x.hold(0), 0);
        due("8: hold(1)", x.hold(1), 5);
        due("8: hold(2)", x.hold(2), 7);
        due("8: hold(16)", x.hold(16), 7);
        for (int k : OUTSIDE) {
            due("8: hold(" + k + ")", x.hold(k), BAD_ARG);
        }
        ForestPacker lump = parallel(7, 16);
        for (int k = 0; k <= 16; k++) {
            due("8: hold(" + k + ") of 16 parallel edges", lump.hold(k), k);
        }
        // A thick pair with a tail: the tail's edges can't make up for the pair's.
        ForestPacker tail = graph(4, 0, 1, 0, 1, 0, 1, 0, 1, 1, 2, 2, 3);
        due("8: hold(1) with a tail", tail.hold(1), 3);
        due("8: hold(2) with a tail", tail.hold(2), 4);
        due("8: hold(3) with a tail", tail.hold(3), 5);
        due("8: hold(4) with a tail", tail.hold(4), 6);
    }

    private static void promise9Needed() {
        due("9: needed() of a path", graph(4, 0, 1, 1, 2, 2, 3).needed(), 1);
        due("9: needed() of two triangles", triangles().needed(), 2);
        due("9: needed() of a pair and a tail", graph(4, 0, 1, 1, 0, 1, 2, 2, 3).needed(), 2);
        for (int count = 0; count <= 16; count++) {
            due("9: needed() of " + count + " parallel", parallel(7, count).needed(), count);
        }
    }

    private static void promise10Trees() {
        due("10: trees() of a path", graph(4, 0, 1, 1, 2, 2, 3).trees(), 1);
        due("10: trees() of a path without its end", graph(4, 0, 1, 1, 2).trees(), 0);
        due("10: trees() of two triangles", triangles().trees(), 1);
        due("10: trees() of K4", graph(4, 0, 1, 0, 2, 0, 3, 1, 2, 1, 3, 2, 3).trees(), 2);
        // Edges enough for two trees, but one of them alone reaches vertex 3.
        due("10: trees() of a tail", graph(4, 0, 1, 0, 1, 1, 2, 1, 2, 0, 2, 2, 3).trees(), 1);
        due("10: trees() of a lump beside a vertex", parallel(3, 16).trees(), 0);
        for (int count = 0; count <= 16; count++) {
            due("10: trees() of " + count + " parallel", parallel(2, count).trees(), count);
        }
    }

    private static void promise11Firm() {
        ForestPacker x = triangles();
        due("11: firm(0)", x.firm(0), 0);
        due("11: firm(1)", x.firm(1), 1);
        due("11: firm(2)", x.firm(2), 7);
        due("11: firm(16)", x.firm(16), 7);
        for (int k : OUTSIDE) {
            due("11: firm(" + k + ")", x.firm(k), BAD_ARG);
            due("11: firm(" + k + ") of a new object", new ForestPacker(3).firm(k), BAD_ARG);
        }
        ForestPacker lump = parallel(2, 16);
        due("11: firm(15) of 16 parallel edges", lump.firm(15), 0);
        due("11: firm(16) of 16 parallel edges", lump.firm(16), 16);
        due("11: edges() after firm", lump.edges(), 16);
    }

    private static void promise12IsFirm() {
        ForestPacker x = triangles();
        for (int e = 0; e < 7; e++) {
            due("12: isFirm(" + e + ", 0)", x.isFirm(e, 0), false);
            due("12: isFirm(" + e + ", 1)", x.isFirm(e, 1), e == 3);
            due("12: isFirm(" + e + ", 2)", x.isFirm(e, 2), true);
            due("12: isFirm(" + e + ", 16)", x.isFirm(e, 16), true);
            for (int k : OUTSIDE) {
                due("12: isFirm(" + e + ", " + k + ")", x.isFirm(e, k), false);
            }
        }
        int[] badEdges = {Integer.MIN_VALUE, -1, 7, 15, 16, 17, Integer.MAX_VALUE};
        for (int e : badEdges) {
            due("12: isFirm(" + e + ", 1)", x.isFirm(e, 1), false);
            due("12: isFirm(" + e + ", 2)", x.isFirm(e, 2), false);
        }
        x.unedge();
        due("12: isFirm(6, 2) of the removed one", x.isFirm(6, 2), false);
        due("12: isFirm(5, 1) after unedge", x.isFirm(5, 1), true);
        ForestPacker full = graph(3, 0, 1, 0, 1, 0, 1, 0, 1, 0, 1, 0, 1, 0, 1, 0, 1,
                0, 1, 0, 1, 0, 1, 0, 1, 0, 1, 0, 1, 0, 1, 1, 2);
        due("12: isFirm(15, 1) if full", full.isFirm(15, 1), true);
        due("12: isFirm(14, 1) if full", full.isFirm(14, 1), false);
    }

    private static void promise13Welcome() {
        ForestPacker x = triangles();
        due("13: welcome(0, 1, 0)", x.welcome(0, 1, 0), false);
        due("13: welcome(0, 5, 1)", x.welcome(0, 5, 1), false);
        due("13: welcome(0, 1, 2)", x.welcome(0, 1, 2), true);
        due("13: welcome(1, 0, 2)", x.welcome(1, 0, 2), true);
        x.edge(0, 1);
        due("13: welcome(0, 1, 2) after edge", x.welcome(0, 1, 2), false);
        due("13: welcome(1, 2, 2) after edge", x.welcome(1, 2, 2), false);
        due("13: welcome(1, 3, 2) after edge", x.welcome(1, 3, 2), true);
        due("13: welcome(3, 4, 2) after edge", x.welcome(3, 4, 2), true);
        int[] badVertices = {Integer.MIN_VALUE, -1, 6, 7, Integer.MAX_VALUE};
        for (int b : badVertices) {
            due("13: welcome(" + b + ", 0, 16)", x.welcome(b, 0, 16), false);
            due("13: welcome(0, " + b + ", 16)", x.welcome(0, b, 16), false);
        }
        for (int v = 0; v < 6; v++) {
            due("13: welcome(" + v + ", " + v + ", 16)", x.welcome(v, v, 16), false);
        }
        for (int k : OUTSIDE) {
            due("13: welcome(0, 5, " + k + ")", x.welcome(0, 5, k), false);
        }
        due("13: edges() after welcome", x.edges(), 8);
        ForestPacker full = parallel(3, 16);
        due("13: welcome(0, 1, 16) if full", full.welcome(0, 1, 16), false);
        due("13: welcome(0, 2, 16) if full", full.welcome(0, 2, 16), true);
        due("13: welcome(2, 1, 1) if full", full.welcome(2, 1, 1), true);
        due("13: hold(16) after it", full.hold(16), 16);
        due("13: parts() after it", full.parts(), 2);
    }

    private static void promise14Room() {
        ForestPacker x = triangles();
        due("14: room(0)", x.room(0), 0);
        due("14: room(1)", x.room(1), 0);
        due("14: room(2)", x.room(2), 15);
        due("14: room(16)", x.room(16), 15);
        x.edge(0, 1);
        due("14: room(2) after edge", x.room(2), 12);
        for (int k : OUTSIDE) {
            due("14: room(" + k + ")", x.room(k), BAD_ARG);
        }
        ForestPacker full = parallel(7, 16);
        due("14: room(16) if full", full.room(16), 20);
        due("14: room(1) if full", full.room(1), 20);
        due("14: room(0) if full", full.room(0), 0);
        due("14: edges() after room", full.edges(), 16);
    }

    private static void promise15Parts() {
        ForestPacker x = new ForestPacker(7);
        int[] ends = {0, 1, 2, 3, 1, 0, 4, 5, 3, 4, 2, 5, 0, 6, 6, 1, 5, 6};
        int[] partsThen = {6, 5, 5, 4, 3, 3, 2, 2, 1};
        for (int e = 0; e < partsThen.length; e++) {
            x.edge(ends[2 * e], ends[2 * e + 1]);
            due("15: parts() with edge " + e, x.parts(), partsThen[e]);
        }
        for (int e = partsThen.length - 1; e > 0; e--) {
            x.unedge();
            due("15: parts() without edge " + e, x.parts(), partsThen[e - 1]);
        }
        due("15: parts() of a lump beside vertices", parallel(7, 16).parts(), 6);
        ForestPacker path = graph(3, 0, 1, 1, 2);
        path.rejoin(1, 1, 0);
        due("15: parts() after rejoin", path.parts(), 2);
    }

    public static void main(String[] args) {
        promise1NewObject();
        promise2Vertices();
        promise3Edge();
        promise4Unedge();
        promise5Rejoin();
        promise6Edges();
        promise7Between();
        promise8Hold();
        promise9Needed();
        promise10Trees();
        promise11Firm();
        promise12IsFirm();
        promise13Welcome();
        promise14Room();
        promise15Parts();
        System.out.println(wrong == 0 ? "all answers are as due" : wrong + " answers are not as due");
        if (wrong != 0) {
            System.exit(1);
        }
    }
}
