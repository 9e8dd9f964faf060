/**
 * Forests in a graph of at most 7 vertices and 16 edges.
 *
 * Everything rests on one formula (Nash-Williams, Tutte): the most edges that k forests hold
 * together is the least value, over all ways to part the vertices into groups, of
 * k * (vertices - groups) + (edges that join different groups).
 * Seven vertices have only 877 such groupings, so all of them are tried.
 */
public final class ForestPacker {
    public static final int BAD_ARG = -1;
    public static final int FULL = -2;
    public static final int NONE = -4;

    private static final int LEAST_VERTICES = 2;
    private static final int MOST_VERTICES = 7;
    private static final int MOST_EDGES = 16;
    private static final int MOST_FORESTS = 16;

    // One place more than there can be edges: welcome tries a further edge on a full graph too.
    private static final int EDGE_PLACES = 17;

    // The Bell number of MOST_VERTICES.
    private static final int MOST_GROUPINGS = 877;

    private static final int NO_EDGE = -1;

    private final int vertexCount;
    private int edgeCount;
    private final int[] oneEnd = new int[EDGE_PLACES];
    private final int[] otherEnd = new int[EDGE_PLACES];

    // The grouping being tried. A vertex is in a group that an earlier vertex is in, or in the
    // next new one: so each grouping is written in one way only and is met once.
    private final int[] group = new int[MOST_VERTICES];

    public ForestPacker(int vertices) {
        if (vertices < LEAST_VERTICES) {
            vertexCount = LEAST_VERTICES;
        } else if (vertices > MOST_VERTICES) {
            vertexCount = MOST_VERTICES;
        } else {
            vertexCount = vertices;
        }
        edgeCount = 0;
    }

    public int vertices() {
        return vertexCount;
    }

    public int edge(int u, int v) {
        if (!canBeJoined(u, v)) {
            return BAD_ARG;
        }
        if (edgeCount >= MOST_EDGES) {
            return FULL;
        }
        setEnds(edgeCount, u, v);
        edgeCount++;
        return edgeCount - 1;
    }

    public int unedge() {
        if (edgeCount <= 0) {
            return NONE;
        }
        edgeCount--;
        return edgeCount;
    }

    public int rejoin(int e, int u, int v) {
        if (!isEdge(e) || !canBeJoined(u, v)) {
            return BAD_ARG;
        }
        setEnds(e, u, v);
        return 0;
    }

    public int edges() {
        return edgeCount;
    }

    public int between(int u, int v) {
        int joining = 0;
        for (int e = 0; e < edgeCount; e++) {
            boolean forward = oneEnd[e] == u && otherEnd[e] == v;
            boolean backward = oneEnd[e] == v && otherEnd[e] == u;
            if (forward || backward) {
                joining++;
            }
        }
        return joining;
    }

    public int hold(int k) {
        if (!isForestCount(k)) {
            return BAD_ARG;
        }
        return mostHeld(k, edgeCount, NO_EDGE);
    }

    public int needed() {
        for (int k = 0; k < MOST_FORESTS; k++) {
            if (mostHeld(k, edgeCount, NO_EDGE) == edgeCount) {
                return k;
            }
        }
        // A forest for each edge always does.
        return MOST_FORESTS;
    }

    public int trees() {
        // A spanning tree has an edge or more, so there are never more trees than edges.
        for (int k = edgeCount; k > 0; k--) {
            if (mostHeld(k, edgeCount, NO_EDGE) == k * (vertexCount - 1)) {
                return k;
            }
        }
        return 0;
    }

    public int firm(int k) {
        if (!isForestCount(k)) {
            return BAD_ARG;
        }
        int count = 0;
        for (int e = 0; e < edgeCount; e++) {
            if (isFirm(e, k)) {
                count++;
            }
        }
        return count;
    }

    public boolean isFirm(int e, int k) {
        if (!isEdge(e) || !isForestCount(k)) {
            return false;
        }
        int withAll = mostHeld(k, edgeCount, NO_EDGE);
        int withoutIt = mostHeld(k, edgeCount, e);
        return withoutIt < withAll;
    }

    public boolean welcome(int u, int v, int k) {
        if (!canBeJoined(u, v) || !isForestCount(k)) {
            return false;
        }
        // The place behind the last edge is free; the edge tried there is never counted as one.
        setEnds(edgeCount, u, v);
        int now = mostHeld(k, edgeCount, NO_EDGE);
        int withIt = mostHeld(k, edgeCount + 1, NO_EDGE);
        return withIt > now;
    }

    public int room(int k) {
        if (!isForestCount(k)) {
            return BAD_ARG;
        }
        int count = 0;
        for (int u = 0; u < vertexCount; u++) {
            for (int v = u + 1; v < vertexCount; v++) {
                if (welcome(u, v, k)) {
                    count++;
                }
            }
        }
        return count;
    }

    public int parts() {
        // A greatest single forest lacks one edge of a spanning tree for each part beyond the first.
        return vertexCount - mostHeld(1, edgeCount, NO_EDGE);
    }

    private boolean isVertex(int v) {
        return v >= 0 && v < vertexCount;
    }

    private boolean canBeJoined(int u, int v) {
        return isVertex(u) && isVertex(v) && u != v;
    }

    private boolean isEdge(int e) {
        return e >= 0 && e < edgeCount;
    }

    private boolean isForestCount(int k) {
        return k >= 0 && k <= MOST_FORESTS;
    }

    private void setEnds(int e, int u, int v) {
        oneEnd[e] = u;
        otherEnd[e] = v;
    }

    /** HOLD(k) for the edges 0 to count - 1 but for the edge left out. */
    private int mostHeld(int k, int count, int leftOut) {
        int least = count;
        putAllInOneGroup();
        for (int tried = 0; tried < MOST_GROUPINGS; tried++) {
            int groups = groupsBefore(vertexCount);
            int value = k * (vertexCount - groups) + joiningGroups(count, leftOut);
            if (value < least) {
                least = value;
            }
            if (!goToNextGrouping()) {
                break;
            }
        }
        return least;
    }

    private int joiningGroups(int count, int leftOut) {
        int joining = 0;
        for (int e = 0; e < count; e++) {
            if (e != leftOut && group[oneEnd[e]] != group[otherEnd[e]]) {
                joining++;
            }
        }
        return joining;
    }

    private void putAllInOneGroup() {
        for (int v = 0; v < vertexCount; v++) {
            group[v] = 0;
        }
    }

    /** False if the grouping was the last one: every vertex in a group of its own. */
    private boolean goToNextGrouping() {
        for (int v = vertexCount - 1; v > 0; v--) {
            if (group[v] < groupsBefore(v)) {
                group[v]++;
                return true;
            }
            // Like a digit that runs over: it starts again and the one before it moves on.
            group[v] = 0;
        }
        return false;
    }

    /** How many groups the vertices 0 to end - 1 are in. */
    private int groupsBefore(int end) {
        int groups = 0;
        for (int v = 0; v < end; v++) {
            if (group[v] >= groups) {
                groups = group[v] + 1;
            }
        }
        return groups;
    }
}
