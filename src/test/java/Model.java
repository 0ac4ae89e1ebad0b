/**
 * The document's terms, followed word by word and slowly: distances are least weights over walks of
 * each exact length, a negative cycle is looked for at each reachable vertex by itself. It shares no
 * way of computing with the class, so that one mistake can't hide in both.
 */
final class Model {
    private static final int NO = 2147483647;
    private static final long FAR = Long.MAX_VALUE;

    final int n;
    final int maxEdges;
    int source;
    private final Integer[][] weight;

    Model(int n, int source, int maxEdges) {
        this.n = Math.max(2, Math.min(32, n));
        this.source = Math.max(0, Math.min(this.n - 1, source));
        this.maxEdges = Math.max(1, Math.min(128, maxEdges));
        this.weight = new Integer[this.n][this.n];
    }

    int addEdge(int u, int v, int w) {
        if (!valid(u) || !valid(v)) {
            return 1;
        }
        if (w < -1000 || w > 1000) {
            return 2;
        }
        if (weight[u][v] != null) {
            return 3;
        }
        if (edgeCount() == maxEdges) {
            return 5;
        }
        return put(u, v, w);
    }

    int setWeight(int u, int v, int w) {
        if (!valid(u) || !valid(v)) {
            return 1;
        }
        if (w < -1000 || w > 1000) {
            return 2;
        }
        if (weight[u][v] == null) {
            return 4;
        }
        return put(u, v, w);
    }

    int removeEdge(int u, int v) {
        if (!valid(u) || !valid(v)) {
            return 1;
        }
        if (weight[u][v] == null) {
            return 4;
        }
        weight[u][v] = null;
        return 0;
    }

    int isolate(int v) {
        if (!valid(v)) {
            return -1;
        }
        int before = edgeCount();
        for (int x = 0; x < n; x++) {
            weight[v][x] = null;
            weight[x][v] = null;
        }
        return before - edgeCount();
    }

    int setSource(int s) {
        if (!valid(s)) {
            return 1;
        }
        if (!consistent(s)) {
            return 6;
        }
        source = s;
        return 0;
    }

    boolean canSet(int u, int v, int w) {
        if (!valid(u) || !valid(v) || w < -1000 || w > 1000) {
            return false;
        }
        Integer old = weight[u][v];
        if (old == null && edgeCount() >= maxEdges) {
            return false;
        }
        int answer = put(u, v, w);
        weight[u][v] = old;
        return answer == 0;
    }

    boolean hasEdge(int u, int v) {
        return valid(u) && valid(v) && weight[u][v] != null;
    }

    int edgeCount() {
        int count = 0;
        for (Integer[] row : weight) {
            for (Integer w : row) {
                count += w == null ? 0 : 1;
            }
        }
        return count;
    }

    /** What Check.answers must give for an object in this state. */
    String answers() {
        long[][] best = walks(source);
        int[] dist = new int[n];
        int[] hops = new int[n];
        int reachable = 0;
        for (int v = 0; v < n; v++) {
            hops[v] = shortestBest(best, v);
            dist[v] = hops[v] < 0 ? NO : (int) best[hops[v]][v];
            reachable += hops[v] < 0 ? 0 : 1;
        }
        StringBuilder text = new StringBuilder("n " + n + " source " + source + " edges " + edgeCount() + "\n");
        text.append("reachable ").append(reachable).append('\n');
        text.append(Check.vertexLine(-1, false, NO, -1, -1));
        for (int v = 0; v < n; v++) {
            text.append(Check.vertexLine(v, hops[v] >= 0, dist[v], hops[v], parent(v, dist, hops)));
        }
        text.append(Check.vertexLine(n, false, NO, -1, -1));
        for (int u = 0; u < n; u++) {
            for (int v = 0; v < n; v++) {
                if (weight[u][v] != null) {
                    text.append(Check.edgeLine(u, v, true, weight[u][v]));
                }
            }
        }
        return text.toString();
    }

    private boolean valid(int x) {
        return 0 <= x && x < n;
    }

    private int put(int u, int v, int w) {
        Integer old = weight[u][v];
        weight[u][v] = w;
        if (consistent(source)) {
            return 0;
        }
        weight[u][v] = old;
        return 6;
    }

    /** best[k][v]: the least weight of a path of exactly k edges from s to v, for k up to n. */
    private long[][] walks(int s) {
        long[][] best = new long[n + 1][n];
        for (long[] row : best) {
            java.util.Arrays.fill(row, FAR);
        }
        best[0][s] = 0;
        for (int k = 1; k <= n; k++) {
            for (int u = 0; u < n; u++) {
                for (int v = 0; v < n; v++) {
                    if (weight[u][v] != null && best[k - 1][u] != FAR) {
                        best[k][v] = Math.min(best[k][v], best[k - 1][u] + weight[u][v]);
                    }
                }
            }
        }
        return best;
    }

    /** A negative cycle holds a simple one, so closed paths of at most n edges tell of each. */
    private boolean consistent(int s) {
        long[][] best = walks(s);
        for (int v = 0; v < n; v++) {
            if (shortestBest(best, v) >= 0 && closesBelowZero(v)) {
                return false;
            }
        }
        return true;
    }

    private boolean closesBelowZero(int v) {
        long[][] best = walks(v);
        for (int k = 1; k <= n; k++) {
            if (best[k][v] < 0) {
                return true;
            }
        }
        return false;
    }

    /** The least number of edges with which a path to v has the least weight; -1 if there is no path. */
    private int shortestBest(long[][] best, int v) {
        int least = -1;
        for (int k = 0; k <= n; k++) {
            if (best[k][v] != FAR && (least < 0 || best[k][v] < best[least][v])) {
                least = k;
            }
        }
        return least;
    }

    private int parent(int v, int[] dist, int[] hops) {
        if (v == source || hops[v] < 0) {
            return -1;
        }
        for (int u = 0; u < n; u++) {
            boolean leads = weight[u][v] != null && hops[u] >= 0;
            if (leads && dist[u] + weight[u][v] == dist[v] && hops[u] + 1 == hops[v]) {
                return u;
            }
        }
        throw new IllegalStateException("the document says that a parent always exists");
    }
}
