/**
 * Runs of calls, with every answer compared with one found straight from the document's
 * definitions: all ways to part the edges into forests, or into spanning trees, are tried.
 */
public final class DefinitionTest {
    private static final int MOST_FORESTS = 16;
    private static final int MOST_CALLS = 512;

    private static int wrong = 0;
    private static long seed = 20261115L;

    private final int vertices;
    private final int limit;
    private ForestPacker packer;
    private int calls = 0;
    private final int[] from = new int[17];
    private final int[] to = new int[17];
    private int count = 0;

    /** limit: the model asks for no more edges than this, to keep the trying short. */
    private DefinitionTest(int vertices, int limit) {
        this.vertices = vertices;
        this.limit = limit;
        this.packer = new ForestPacker(vertices);
    }

    private static int pick(int bound) {
        seed = seed * 6364136223846793005L + 1442695040888963407L;
        return (int) ((seed >>> 33) % bound);
    }

    private void due(String call, int got, int want) {
        if (got == want) {
            return;
        }
        wrong++;
        StringBuilder graph = new StringBuilder();
        for (int e = 0; e < count; e++) {
            graph.append(' ').append(from[e]).append('-').append(to[e]);
        }
        System.out.println(vertices + " vertices, edges" + graph + ": " + call + " answered " + got
                + ", due is " + want);
    }

    /** The object for the next call: a new one like it when the promised calls are used up. */
    private ForestPacker packer() {
        if (calls == MOST_CALLS) {
            packer = new ForestPacker(vertices);
            for (int e = 0; e < count; e++) {
                packer.edge(from[e], to[e]);
            }
            calls = count;
        }
        calls++;
        return packer;
    }

    private static int asInt(boolean b) {
        return b ? 1 : 0;
    }

    // ---- the definitions

    private boolean isForest(int mask) {
        int[] part = partsOf(0);
        for (int e = 0; e < 17; e++) {
            if ((mask >> e & 1) != 0) {
                if (part[from[e]] == part[to[e]]) {
                    return false;
                }
                merge(part, part[from[e]], part[to[e]]);
            }
        }
        return true;
    }

    private int[] partsOf(int mask) {
        int[] part = new int[vertices];
        for (int v = 0; v < vertices; v++) {
            part[v] = v;
        }
        for (int e = 0; e < 17; e++) {
            if ((mask >> e & 1) != 0) {
                merge(part, part[from[e]], part[to[e]]);
            }
        }
        return part;
    }

    private static void merge(int[] part, int a, int b) {
        for (int v = 0; v < part.length; v++) {
            if (part[v] == a) {
                part[v] = b;
            }
        }
    }

    private boolean[] forests(int size) {
        boolean[] forest = new boolean[1 << size];
        for (int mask = 0; mask < forest.length; mask++) {
            forest[mask] = isForest(mask);
        }
        return forest;
    }

    /** For each set of the first size edges, the least number of forests that hold it. */
    private static byte[] forestsNeeded(boolean[] forest) {
        byte[] needed = new byte[forest.length];
        for (int mask = 1; mask < forest.length; mask++) {
            int low = mask & -mask;
            int rest = mask ^ low;
            int best = Integer.MAX_VALUE;
            // Some forest has the lowest edge: the others share what this one leaves.
            for (int more = rest; ; more = more - 1 & rest) {
                if (forest[more | low] && needed[rest ^ more] + 1 < best) {
                    best = needed[rest ^ more] + 1;
                }
                if (more == 0) {
                    break;
                }
            }
            needed[mask] = (byte) best;
        }
        return needed;
    }

    /** HOLD(k) for each k, of the edges that are not in without. */
    private static int[] holds(byte[] needed, int without) {
        int[] hold = new int[MOST_FORESTS + 1];
        for (int mask = 0; mask < needed.length; mask++) {
            if ((mask & without) == 0) {
                int size = Integer.bitCount(mask);
                for (int k = needed[mask]; k <= MOST_FORESTS; k++) {
                    hold[k] = Math.max(hold[k], size);
                }
            }
        }
        return hold;
    }

    private int spanningTrees(boolean[] forest) {
        int[] trees = new int[forest.length];
        for (int mask = 1; mask < forest.length; mask++) {
            int low = mask & -mask;
            int rest = mask ^ low;
            // Either no tree has the lowest edge, or one has it and the others share what is left.
            trees[mask] = trees[rest];
            for (int more = rest; ; more = more - 1 & rest) {
                boolean tree = forest[more | low] && Integer.bitCount(more | low) == vertices - 1;
                if (tree && trees[rest ^ more] + 1 > trees[mask]) {
                    trees[mask] = trees[rest ^ more] + 1;
                }
                if (more == 0) {
                    break;
                }
            }
        }
        return trees[forest.length - 1];
    }

    private int partCount() {
        int[] part = partsOf((1 << count) - 1);
        int found = 0;
        for (int p = 0; p < vertices; p++) {
            boolean used = false;
            for (int v = 0; v < vertices; v++) {
                used |= part[v] == p;
            }
            found += asInt(used);
        }
        return found;
    }

    // ---- the calls that change the graph

    private boolean joinable(int u, int v) {
        return u >= 0 && u < vertices && v >= 0 && v < vertices && u != v;
    }

    private void edge(int u, int v) {
        int want = !joinable(u, v) ? -1 : count == 16 ? -2 : count;
        due("edge(" + u + ", " + v + ")", packer().edge(u, v), want);
        if (want >= 0) {
            from[count] = u;
            to[count] = v;
            count++;
        }
    }

    private void unedge() {
        due("unedge()", packer().unedge(), count == 0 ? -4 : count - 1);
        count = Math.max(0, count - 1);
    }

    private void rejoin(int e, int u, int v) {
        boolean good = e >= 0 && e < count && joinable(u, v);
        due("rejoin(" + e + ", " + u + ", " + v + ")", packer().rejoin(e, u, v), good ? 0 : -1);
        if (good) {
            from[e] = u;
            to[e] = v;
        }
    }

    private void anyChange() {
        // Wrong inputs and removals are the rarer ones, else the graph would stay near empty.
        boolean maybeWrong = pick(6) == 0;
        int u = maybeWrong ? pick(vertices + 2) - 1 : pick(vertices);
        int v = maybeWrong ? pick(vertices + 2) - 1 : (u + 1 + pick(vertices - 1)) % vertices;
        int kind = pick(10);
        if (kind < 6) {
            if (count < limit) {
                edge(u, v);
            }
        } else if (kind < 9) {
            rejoin(pick(count + 2) - 1, u, v);
        } else {
            unedge();
        }
    }

    // ---- the questions

    private void askAll() {
        boolean[] forest = forests(count);
        byte[] needed = forestsNeeded(forest);
        int[] hold = holds(needed, 0);
        due("vertices()", packer().vertices(), vertices);
        due("edges()", packer().edges(), count);
        due("needed()", packer().needed(), needed[needed.length - 1]);
        due("trees()", packer().trees(), spanningTrees(forest));
        due("parts()", packer().parts(), partCount());
        for (int k = 0; k <= MOST_FORESTS; k++) {
            due("hold(" + k + ")", packer().hold(k), hold[k]);
        }
        askBetween();
        askFirm(needed, hold);
        askWelcome(hold);
    }

    private void askBetween() {
        for (int u = -1; u <= vertices; u++) {
            for (int v = -1; v <= vertices; v++) {
                int want = 0;
                for (int e = 0; e < count; e++) {
                    want += asInt(from[e] == u && to[e] == v || from[e] == v && to[e] == u);
                }
                due("between(" + u + ", " + v + ")", packer().between(u, v), want);
            }
        }
    }

    private void askFirm(byte[] needed, int[] hold) {
        int[] firm = new int[MOST_FORESTS + 1];
        for (int e = 0; e < count; e++) {
            int[] less = holds(needed, 1 << e);
            for (int k = 0; k <= MOST_FORESTS; k++) {
                int want = asInt(less[k] < hold[k]);
                firm[k] += want;
                due("isFirm(" + e + ", " + k + ")", asInt(packer().isFirm(e, k)), want);
            }
        }
        for (int k = 0; k <= MOST_FORESTS; k++) {
            due("firm(" + k + ")", packer().firm(k), firm[k]);
        }
    }

    private void askWelcome(int[] hold) {
        int[] room = new int[MOST_FORESTS + 1];
        for (int u = 0; u < vertices; u++) {
            for (int v = u + 1; v < vertices; v++) {
                from[count] = u;
                to[count] = v;
                int[] more = holds(forestsNeeded(forests(count + 1)), 0);
                for (int k = 0; k <= MOST_FORESTS; k++) {
                    int want = asInt(more[k] > hold[k]);
                    room[k] += want;
                    String args = "(" + u + ", " + v + ", " + k + ")";
                    due("welcome" + args, asInt(packer().welcome(u, v, k)), want);
                    due("welcome turned" + args, asInt(packer().welcome(v, u, k)), want);
                }
            }
        }
        for (int k = 0; k <= MOST_FORESTS; k++) {
            due("room(" + k + ")", packer().room(k), room[k]);
        }
    }

    // ---- the runs

    private static void mixedRuns() {
        for (int run = 0; run < 90; run++) {
            DefinitionTest test = new DefinitionTest(2 + run % 6, 4 + run % 9);
            for (int round = 0; round < 4; round++) {
                for (int change = 0; change < 12; change++) {
                    test.anyChange();
                }
                test.askAll();
            }
        }
    }

    private static void fullRuns() {
        for (int vertices = 2; vertices <= 7; vertices++) {
            DefinitionTest test = new DefinitionTest(vertices, 16);
            for (int change = 0; change < 60; change++) {
                test.anyChange();
            }
            test.fill();
            test.edge(0, 1);
            test.edge(0, 0);
            test.askAll();
        }
    }

    private void fill() {
        while (count < 16) {
            int u = pick(vertices);
            edge(u, (u + 1 + pick(vertices - 1)) % vertices);
        }
    }

    /** A full graph in which no edge stands twice: a ring with its chords. */
    private static void fullRunOfSeven() {
        DefinitionTest test = new DefinitionTest(7, 16);
        for (int step = 1; step <= 3; step++) {
            for (int v = 0; v < 7 && test.count < 16; v++) {
                test.edge(v, (v + step) % 7);
            }
        }
        test.edge(0, 1);
        test.askAll();
    }

    public static void main(String[] args) {
        mixedRuns();
        fullRuns();
        fullRunOfSeven();
        System.out.println(wrong == 0 ? "all answers are as due" : wrong + " answers are not as due");
        if (wrong != 0) {
            System.exit(1);
        }
    }
}
