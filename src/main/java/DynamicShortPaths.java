/**
 * Single-source shortest distances, fewest-edge counts and a canonical shortest-path tree
 * over a small directed weighted graph that changes one edge at a time.
 */
public final class DynamicShortPaths {
    public static final int OK = 0;
    public static final int BAD_VERTEX = 1;
    public static final int BAD_WEIGHT = 2;
    public static final int EXISTS = 3;
    public static final int MISSING = 4;
    public static final int FULL = 5;
    public static final int NEG_CYCLE = 6;

    public static final int MIN_WEIGHT = -1000;
    public static final int MAX_WEIGHT = 1000;
    public static final int MAX_VERTICES = 32;
    public static final int MAX_EDGES = 128;
    public static final int NO_DIST = 2147483647;
    public static final int NO_EDGE = 2147483647;

    private static final int MIN_VERTICES = 2;
    private static final int MIN_EDGES = 1;
    private static final int PAIRS = MAX_VERTICES * MAX_VERTICES;
    private static final int NONE = -1;

    private final int n;
    private final int maxEdges;
    private int source;
    private int edges;
    private int reachable;

    // One slot for each ordered pair; NO_EDGE marks an absent edge, as no allowed weight equals it.
    private final int[] weight = new int[PAIRS];

    private final int[] dist = new int[MAX_VERTICES];
    private final int[] hops = new int[MAX_VERTICES];
    private final int[] parent = new int[MAX_VERTICES];

    // A search works here, so that a refused change leaves the answers above untouched.
    private final int[] trialDist = new int[MAX_VERTICES];
    private final int[] trialHops = new int[MAX_VERTICES];

    public DynamicShortPaths(int n, int source, int maxEdges) {
        this.n = clamp(n, MIN_VERTICES, MAX_VERTICES);
        this.source = clamp(source, 0, this.n - 1);
        this.maxEdges = clamp(maxEdges, MIN_EDGES, MAX_EDGES);
        this.edges = 0;
        clearWeights();
        recompute();
    }

    public int addEdge(int u, int v, int w) {
        if (!isValid(u) || !isValid(v)) {
            return BAD_VERTEX;
        }
        if (!isAllowed(w)) {
            return BAD_WEIGHT;
        }
        int slot = slotOf(u, v);
        if (weight[slot] != NO_EDGE) {
            return EXISTS;
        }
        if (edges >= maxEdges) {
            return FULL;
        }
        if (!isConsistentWith(slot, w)) {
            return NEG_CYCLE;
        }
        weight[slot] = w;
        edges++;
        recompute();
        return OK;
    }

    public int setWeight(int u, int v, int w) {
        if (!isValid(u) || !isValid(v)) {
            return BAD_VERTEX;
        }
        if (!isAllowed(w)) {
            return BAD_WEIGHT;
        }
        int slot = slotOf(u, v);
        if (weight[slot] == NO_EDGE) {
            return MISSING;
        }
        if (!isConsistentWith(slot, w)) {
            return NEG_CYCLE;
        }
        weight[slot] = w;
        recompute();
        return OK;
    }

    public int removeEdge(int u, int v) {
        if (!isValid(u) || !isValid(v)) {
            return BAD_VERTEX;
        }
        int slot = slotOf(u, v);
        if (weight[slot] == NO_EDGE) {
            return MISSING;
        }
        weight[slot] = NO_EDGE;
        edges--;
        recompute();
        return OK;
    }

    public int isolate(int v) {
        if (!isValid(v)) {
            return NONE;
        }
        int before = edges;
        for (int x = 0; x < n; x++) {
            int out = slotOf(v, x);
            dropSlot(out);
            int in = slotOf(x, v);
            dropSlot(in);
        }
        recompute();
        return before - edges;
    }

    public int setSource(int s) {
        if (!isValid(s)) {
            return BAD_VERTEX;
        }
        if (!search(s)) {
            return NEG_CYCLE;
        }
        source = s;
        recompute();
        return OK;
    }

    public boolean canSet(int u, int v, int w) {
        if (!isValid(u) || !isValid(v) || !isAllowed(w)) {
            return false;
        }
        int slot = slotOf(u, v);
        if (weight[slot] == NO_EDGE && edges >= maxEdges) {
            return false;
        }
        return isConsistentWith(slot, w);
    }

    public int getDist(int v) {
        return isValid(v) ? dist[v] : NO_DIST;
    }

    public boolean isReachable(int v) {
        return isValid(v) && dist[v] != NO_DIST;
    }

    public int getHops(int v) {
        return isValid(v) ? hops[v] : NONE;
    }

    public int getParent(int v) {
        return isValid(v) ? parent[v] : NONE;
    }

    public int getWeight(int u, int v) {
        if (!isValid(u) || !isValid(v)) {
            return NO_EDGE;
        }
        int slot = slotOf(u, v);
        return weight[slot];
    }

    public boolean hasEdge(int u, int v) {
        return getWeight(u, v) != NO_EDGE;
    }

    public int edgeCount() {
        return edges;
    }

    public int reachableCount() {
        return reachable;
    }

    public int getSource() {
        return source;
    }

    public int vertexCount() {
        return n;
    }

    private static int clamp(int value, int least, int greatest) {
        if (value < least) {
            return least;
        }
        return value > greatest ? greatest : value;
    }

    private boolean isValid(int v) {
        return v >= 0 && v < n;
    }

    private static boolean isAllowed(int w) {
        return w >= MIN_WEIGHT && w <= MAX_WEIGHT;
    }

    private static int slotOf(int u, int v) {
        return u * MAX_VERTICES + v;
    }

    private void clearWeights() {
        for (int slot = 0; slot < PAIRS; slot++) {
            weight[slot] = NO_EDGE;
        }
    }

    private void dropSlot(int slot) {
        // The loop's slot comes by twice in isolate, so an empty one must not count again.
        if (weight[slot] != NO_EDGE) {
            weight[slot] = NO_EDGE;
            edges--;
        }
    }

    private boolean isConsistentWith(int slot, int w) {
        int old = weight[slot];
        weight[slot] = w;
        boolean consistent = search(source);
        weight[slot] = old;
        return consistent;
    }

    /**
     * Fills the trial arrays for the start s; answers whether no negative cycle is reachable from s.
     * A cheapest path with fewest edges visits no vertex twice, so without a negative cycle
     * n - 1 rounds settle everything and the n-th is quiet; with one, no round is ever quiet.
     */
    private boolean search(int s) {
        for (int v = 0; v < n; v++) {
            trialDist[v] = NO_DIST;
            trialHops[v] = NONE;
        }
        trialDist[s] = 0;
        trialHops[s] = 0;
        for (int round = 0; round < n; round++) {
            if (!relaxAll()) {
                return true;
            }
        }
        return false;
    }

    private boolean relaxAll() {
        boolean changed = false;
        for (int u = 0; u < n; u++) {
            for (int v = 0; v < n; v++) {
                int slot = slotOf(u, v);
                int w = weight[slot];
                if (w != NO_EDGE && trialDist[u] != NO_DIST && relax(u, v, w)) {
                    changed = true;
                }
            }
        }
        return changed;
    }

    private boolean relax(int u, int v, int w) {
        int newDist = trialDist[u] + w;
        int newHops = trialHops[u] + 1;
        // NO_DIST is above every real distance, so a vertex not yet met always takes the new one.
        if (newDist > trialDist[v] || (newDist == trialDist[v] && newHops >= trialHops[v])) {
            return false;
        }
        trialDist[v] = newDist;
        trialHops[v] = newHops;
        return true;
    }

    // Everything is made anew from the graph and the source, so that no other history can show.
    private void recompute() {
        search(source);
        reachable = 0;
        for (int v = 0; v < n; v++) {
            dist[v] = trialDist[v];
            hops[v] = trialHops[v];
            if (dist[v] != NO_DIST) {
                reachable++;
            }
        }
        for (int v = 0; v < n; v++) {
            parent[v] = leastParent(v);
        }
    }

    private int leastParent(int v) {
        if (v == source || dist[v] == NO_DIST) {
            return NONE;
        }
        for (int u = 0; u < n; u++) {
            if (isTight(u, v)) {
                return u;
            }
        }
        return NONE;
    }

    private boolean isTight(int u, int v) {
        int slot = slotOf(u, v);
        return weight[slot] != NO_EDGE
            && dist[u] != NO_DIST
            && dist[u] + weight[slot] == dist[v]
            && hops[u] + 1 == hops[v];
    }
}
