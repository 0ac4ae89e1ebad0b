/** Promise 5: isolate. */
final class IsolateTest {
    private static final int OK = DynamicShortPaths.OK;

    private IsolateTest() {
    }

    public static void main(String[] args) {
        removesEveryEdgeAtAVertex();
        isolatesTheSource();
        isolatesTheLastVertexOfAFullStar();
        freesACycle();
        refusesBadVertices();
        Check.end();
    }

    private static DynamicShortPaths diamond() {
        DynamicShortPaths x = new DynamicShortPaths(5, 0, 12);
        Check.add(x, 0, 1, 1, OK);
        Check.add(x, 1, 2, 1, OK);
        Check.add(x, 2, 1, 1, OK);
        Check.add(x, 1, 1, 0, OK);
        Check.add(x, 0, 3, 5, OK);
        Check.add(x, 3, 2, 5, OK);
        Check.add(x, 2, 2, 7, OK);
        return x;
    }

    private static void removesEveryEdgeAtAVertex() {
        DynamicShortPaths x = diamond();
        Check.isolate(x, 1, 4);
        Check.same("edgeCount()", x.edgeCount(), 3);
        Check.noEdge(x, 0, 1);
        Check.noEdge(x, 1, 2);
        Check.noEdge(x, 2, 1);
        Check.noEdge(x, 1, 1);
        Check.edge(x, 0, 3, 5);
        Check.edge(x, 3, 2, 5);
        Check.edge(x, 2, 2, 7);
        Check.unreachable(x, 1);
        Check.vertex(x, 2, 10, 2, 3);
        Check.same("reachableCount()", x.reachableCount(), 3);
        Check.same("getSource()", x.getSource(), 0);
        Check.isolate(x, 1, 0);
        Check.isolate(x, 4, 0);
    }

    private static void isolatesTheSource() {
        DynamicShortPaths x = diamond();
        Check.add(x, 2, 0, 3, OK);
        Check.add(x, 0, 0, 3, OK);
        Check.isolate(x, 0, 4);
        Check.same("getSource()", x.getSource(), 0);
        Check.vertex(x, 0, 0, 0, -1);
        for (int v = 1; v < 5; v++) {
            Check.unreachable(x, v);
        }
        Check.same("reachableCount()", x.reachableCount(), 1);
        Check.same("edgeCount()", x.edgeCount(), 5);
        Check.isolate(x, 0, 0);
    }

    private static void isolatesTheLastVertexOfAFullStar() {
        DynamicShortPaths x = new DynamicShortPaths(32, 0, 128);
        for (int v = 0; v < 32; v++) {
            Check.add(x, 31, v, 1, OK);
            if (v != 31) {
                Check.add(x, v, 31, 1, OK);
            }
        }
        Check.same("edgeCount()", x.edgeCount(), 63);
        Check.same("reachableCount()", x.reachableCount(), 32);
        Check.isolate(x, 31, 63);
        Check.same("edgeCount()", x.edgeCount(), 0);
        Check.same("reachableCount()", x.reachableCount(), 1);
    }

    private static void freesACycle() {
        DynamicShortPaths x = new DynamicShortPaths(3, 0, 3);
        Check.add(x, 1, 2, -1, OK);
        Check.add(x, 2, 1, -1, OK);
        Check.add(x, 0, 1, 0, DynamicShortPaths.NEG_CYCLE);
        Check.isolate(x, 2, 2);
        Check.add(x, 0, 1, 0, OK);
        Check.vertex(x, 1, 0, 1, 0);
    }

    private static void refusesBadVertices() {
        DynamicShortPaths x = diamond();
        for (int bad : Check.invalidVertices(x)) {
            Check.isolate(x, bad, -1);
        }
    }
}
