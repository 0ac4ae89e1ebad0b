/** Promise 1: clamping and the starting state; with it promises 14 to 17 on a new object. */
final class ConstructionTest {
    private static final int LOW = Integer.MIN_VALUE;
    private static final int HIGH = Integer.MAX_VALUE;

    private ConstructionTest() {
    }

    public static void main(String[] args) {
        starts(6, 0, 16, 6, 0, 16);
        starts(100, 50, 0, 32, 31, 1);
        starts(-5, 3, 500, 2, 1, 128);
        starts(2, 1, 1, 2, 1, 1);
        starts(1, 0, 2, 2, 0, 2);
        starts(0, -1, -1, 2, 0, 1);
        starts(3, 3, 127, 3, 2, 127);
        starts(31, 31, 128, 31, 30, 128);
        starts(32, 31, 128, 32, 31, 128);
        starts(33, 32, 129, 32, 31, 128);
        starts(10, 9, 7, 10, 9, 7);
        starts(10, 10, 7, 10, 9, 7);
        starts(LOW, LOW, LOW, 2, 0, 1);
        starts(HIGH, HIGH, HIGH, 32, 31, 128);
        starts(LOW, HIGH, LOW, 2, 1, 1);
        starts(HIGH, LOW, HIGH, 32, 0, 128);
        Check.end();
    }

    private static void starts(int n, int source, int maxEdges, int dueN, int dueSource, int dueMax) {
        DynamicShortPaths x = new DynamicShortPaths(n, source, maxEdges);
        Check.same("vertexCount()", x.vertexCount(), dueN);
        Check.same("getSource()", x.getSource(), dueSource);
        Check.same("edgeCount()", x.edgeCount(), 0);
        Check.same("reachableCount()", x.reachableCount(), 1);
        for (int v = 0; v < dueN; v++) {
            if (v == dueSource) {
                Check.vertex(x, v, 0, 0, -1);
            } else {
                Check.unreachable(x, v);
            }
            for (int u = 0; u < dueN; u++) {
                Check.noEdge(x, u, v);
            }
        }
        holdsAtMost(x, dueMax);
    }

    private static void holdsAtMost(DynamicShortPaths x, int dueMax) {
        int n = x.vertexCount();
        int room = Math.min(dueMax, n * n);
        for (int i = 0; i < room; i++) {
            Check.same("addEdge, number " + (i + 1), x.addEdge(i / n, i % n, 1), DynamicShortPaths.OK);
        }
        Check.same("edgeCount()", x.edgeCount(), room);
        if (room < n * n) {
            Check.add(x, room / n, room % n, 1, DynamicShortPaths.FULL);
            Check.can(x, room / n, room % n, 1, false);
        }
    }
}
