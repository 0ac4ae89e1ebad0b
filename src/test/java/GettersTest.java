/** Promises 8 to 17: what the getters answer, also for vertices that are not valid. */
final class GettersTest {
    private static final int OK = DynamicShortPaths.OK;

    private GettersTest() {
    }

    public static void main(String[] args) {
        answersOrdinaryGraphs();
        answersBadVertices();
        prefersFewestEdges();
        prefersTheLeastParent();
        ignoresUnreachablePredecessors();
        keepsTheSourceAtZero();
        countsEdgesAndVertices();
        Check.end();
    }

    private static void answersOrdinaryGraphs() {
        DynamicShortPaths x = new DynamicShortPaths(6, 2, 16);
        Check.add(x, 2, 0, -5, OK);
        Check.add(x, 0, 5, 8, OK);
        Check.add(x, 5, 1, 0, OK);
        Check.add(x, 3, 4, 6, OK);
        Check.add(x, 4, 3, -6, OK);
        Check.vertex(x, 2, 0, 0, -1);
        Check.vertex(x, 0, -5, 1, 2);
        Check.vertex(x, 5, 3, 2, 0);
        Check.vertex(x, 1, 3, 3, 5);
        Check.unreachable(x, 3);
        Check.unreachable(x, 4);
        Check.edge(x, 3, 4, 6);
        Check.edge(x, 4, 3, -6);
        Check.edge(x, 2, 0, -5);
        Check.noEdge(x, 0, 2);
        Check.noEdge(x, 2, 2);
        Check.same("edgeCount()", x.edgeCount(), 5);
        Check.same("reachableCount()", x.reachableCount(), 4);
        Check.same("getSource()", x.getSource(), 2);
        Check.same("vertexCount()", x.vertexCount(), 6);
    }

    private static void answersBadVertices() {
        int[] sizes = {2, 5, 31, 32};
        for (int n : sizes) {
            DynamicShortPaths x = new DynamicShortPaths(n, n - 1, 128);
            for (int v = 0; v < n; v++) {
                Check.add(x, n - 1, v, 3, OK);
            }
            for (int v = 0; v < n - 1; v++) {
                Check.add(x, v, 0, 0, OK);
            }
            for (int bad : Check.invalidVertices(x)) {
                Check.unreachable(x, bad);
                for (int v = 0; v < n; v++) {
                    Check.noEdge(x, bad, v);
                    Check.noEdge(x, v, bad);
                }
                Check.noEdge(x, bad, bad);
            }
        }
    }

    private static void prefersFewestEdges() {
        DynamicShortPaths x = new DynamicShortPaths(6, 5, 16);
        Check.add(x, 5, 0, 1, OK);
        Check.add(x, 0, 1, 1, OK);
        Check.add(x, 1, 2, 1, OK);
        Check.add(x, 2, 3, 1, OK);
        Check.vertex(x, 2, 3, 3, 1);
        Check.add(x, 5, 4, -7, OK);
        Check.add(x, 4, 2, 10, OK);
        Check.vertex(x, 2, 3, 2, 4);
        Check.vertex(x, 3, 4, 3, 2);
        Check.add(x, 5, 3, 4, OK);
        Check.vertex(x, 3, 4, 1, 5);
        Check.set(x, 5, 3, 5, OK);
        Check.vertex(x, 3, 4, 3, 2);
    }

    private static void prefersTheLeastParent() {
        DynamicShortPaths x = new DynamicShortPaths(6, 2, 16);
        int[] middles = {4, 3, 1, 0};
        for (int m : middles) {
            Check.add(x, 2, m, 10 - m, OK);
            Check.add(x, m, 5, m, OK);
            Check.vertex(x, 5, 10, 2, m);
        }
        Check.set(x, 0, 5, 1, OK);
        Check.vertex(x, 5, 10, 2, 1);
        Check.remove(x, 2, 1, OK);
        Check.vertex(x, 5, 10, 2, 3);
        // 0 offers the same distance with one edge more, so it is no parent though it is the least.
        Check.add(x, 3, 0, -1, OK);
        Check.set(x, 0, 5, 4, OK);
        Check.vertex(x, 0, 6, 2, 3);
        Check.vertex(x, 5, 10, 2, 3);
    }

    private static void ignoresUnreachablePredecessors() {
        DynamicShortPaths x = new DynamicShortPaths(4, 2, 16);
        Check.add(x, 2, 3, 0, OK);
        Check.add(x, 0, 3, 1, OK);
        Check.add(x, 0, 2, 1, OK);
        Check.add(x, 1, 3, 0, OK);
        Check.vertex(x, 3, 0, 1, 2);
        Check.vertex(x, 2, 0, 0, -1);
        Check.unreachable(x, 0);
        Check.unreachable(x, 1);
    }

    private static void keepsTheSourceAtZero() {
        DynamicShortPaths x = new DynamicShortPaths(3, 1, 16);
        Check.add(x, 1, 1, 0, OK);
        Check.add(x, 1, 0, -5, OK);
        Check.add(x, 0, 1, 5, OK);
        Check.add(x, 0, 0, 0, OK);
        Check.vertex(x, 1, 0, 0, -1);
        Check.vertex(x, 0, -5, 1, 1);
    }

    private static void countsEdgesAndVertices() {
        DynamicShortPaths x = new DynamicShortPaths(32, 0, 128);
        for (int i = 0; i < 128; i++) {
            Check.add(x, i / 32, i % 32, 1, OK);
            Check.same("edgeCount()", x.edgeCount(), i + 1);
            Check.same("reachableCount()", x.reachableCount(), i < 32 ? i + 1 : 32);
            Check.same("vertexCount()", x.vertexCount(), 32);
        }
        Check.add(x, 5, 5, 1, DynamicShortPaths.FULL);
        for (int i = 127; i >= 0; i--) {
            Check.remove(x, i / 32, i % 32, OK);
            Check.same("edgeCount()", x.edgeCount(), i);
        }
        Check.same("reachableCount()", x.reachableCount(), 1);
        Check.same("vertexCount()", x.vertexCount(), 32);
    }
}
