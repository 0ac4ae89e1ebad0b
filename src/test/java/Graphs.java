/** Objects in the states that the tests of the boundary cases start from. */
final class Graphs {
    private static final int OK = DynamicShortPaths.OK;

    private Graphs() {
    }

    /** 0 > 1 > .. > n-1, each edge with weight w; the source is 0, and there is room for 128 edges. */
    static DynamicShortPaths path(int n, int w) {
        DynamicShortPaths x = new DynamicShortPaths(n, 0, 128);
        for (int v = 1; v < n; v++) {
            Check.same("addEdge", x.addEdge(v - 1, v, w), OK);
        }
        return x;
    }

    /** Exactly maxEdges edges of weight w, in the order (0,0), (0,1), ..; the source is n-1. */
    static DynamicShortPaths full(int n, int maxEdges, int w) {
        DynamicShortPaths x = new DynamicShortPaths(n, n - 1, maxEdges);
        for (int i = 0; i < maxEdges; i++) {
            Check.same("addEdge, number " + (i + 1), x.addEdge(i / n, i % n, w), OK);
        }
        return x;
    }

    /** Every ordered pair of n vertices, loops too, and no room for more. */
    static DynamicShortPaths complete(int n, int w) {
        return full(n, n * n, w);
    }

    /** The number of edges that mixed makes. */
    static final int MIXED_EDGES = 8;

    /**
     * Six vertices, source 2. Reachable: 0 (-5), 5 (3, by two paths), both with a loop of weight 0.
     * Not reachable: 1 and 3, on a cycle of weight -1, with an edge to 5; and 4, without any edge.
     */
    static DynamicShortPaths mixed(int maxEdges) {
        DynamicShortPaths x = new DynamicShortPaths(6, 2, maxEdges);
        Check.add(x, 2, 0, -5, OK);
        Check.add(x, 0, 5, 8, OK);
        Check.add(x, 2, 5, 3, OK);
        Check.add(x, 0, 0, 0, OK);
        Check.add(x, 5, 5, 0, OK);
        Check.add(x, 1, 3, 2, OK);
        Check.add(x, 3, 1, -3, OK);
        Check.add(x, 3, 5, 1000, OK);
        return x;
    }

    /** No edge, some edges, no room for one more: a call must hold in each. */
    static DynamicShortPaths[] emptyToFull() {
        return new DynamicShortPaths[] {
            new DynamicShortPaths(2, 0, 1), new DynamicShortPaths(32, 31, 128), mixed(128), mixed(MIXED_EDGES),
            complete(2, 0), complete(11, 0), complete(11, 1), full(32, 128, 1)
        };
    }

    /** A second object with the same vertices, source and edges, that has seen no other call. */
    static DynamicShortPaths twin(DynamicShortPaths x, int maxEdges) {
        int n = x.vertexCount();
        DynamicShortPaths y = new DynamicShortPaths(n, x.getSource(), maxEdges);
        for (int u = n - 1; u >= 0; u--) {
            for (int v = 0; v < n; v++) {
                if (x.hasEdge(u, v)) {
                    Check.same("addEdge to the twin", y.addEdge(u, v, x.getWeight(u, v)), OK);
                }
            }
        }
        return y;
    }
}
