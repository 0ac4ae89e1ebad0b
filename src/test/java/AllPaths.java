import java.util.Arrays;

/**
 * Walks every path from the source that meets no vertex twice; in a consistent graph the cheapest paths
 * with fewest edges are among them. Only for few vertices: a third reading of the terms, beside Model.
 */
final class AllPaths {
    private final DynamicShortPaths x;
    private final int n;
    private final int[] dist;
    private final int[] hops;

    /** Reads n, the source and the edges off x, and nothing else. */
    AllPaths(DynamicShortPaths x) {
        this.x = x;
        this.n = x.vertexCount();
        this.dist = new int[n];
        this.hops = new int[n];
        Arrays.fill(dist, DynamicShortPaths.NO_DIST);
        Arrays.fill(hops, -1);
        walk(x.getSource(), 0, 0, new boolean[n]);
    }

    private void walk(int at, int weight, int length, boolean[] met) {
        boolean cheaper = hops[at] < 0 || weight < dist[at];
        if (cheaper || (weight == dist[at] && length < hops[at])) {
            dist[at] = weight;
            hops[at] = length;
        }
        met[at] = true;
        for (int v = 0; v < n; v++) {
            if (!met[v] && x.hasEdge(at, v)) {
                walk(v, weight + x.getWeight(at, v), length + 1, met);
            }
        }
        met[at] = false;
    }

    private int parent(int v) {
        if (v == x.getSource() || hops[v] < 0) {
            return -1;
        }
        for (int u = 0; u < n; u++) {
            boolean before = x.hasEdge(u, v) && hops[u] + 1 == hops[v] && hops[u] >= 0;
            if (before && dist[u] + x.getWeight(u, v) == dist[v]) {
                return u;
            }
        }
        return -1;
    }

    /** What Check.tree must give. */
    String tree() {
        StringBuilder text = new StringBuilder();
        text.append(Check.vertexLine(-1, false, DynamicShortPaths.NO_DIST, -1, -1));
        int reachable = 0;
        for (int v = 0; v < n; v++) {
            text.append(Check.vertexLine(v, hops[v] >= 0, dist[v], hops[v], parent(v)));
            reachable += hops[v] >= 0 ? 1 : 0;
        }
        text.append(Check.vertexLine(n, false, DynamicShortPaths.NO_DIST, -1, -1));
        return "reachable " + reachable + "\n" + text;
    }
}
