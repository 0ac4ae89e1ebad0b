/** Promise 4: removeEdge. */
final class RemoveEdgeTest {
    private static final int OK = DynamicShortPaths.OK;
    private static final int BAD_VERTEX = DynamicShortPaths.BAD_VERTEX;
    private static final int MISSING = DynamicShortPaths.MISSING;

    private RemoveEdgeTest() {
    }

    public static void main(String[] args) {
        removesAndUpdates();
        letsHopsShrink();
        cutsOffAZeroCycle();
        makesRoom();
        refusesBadArguments();
        Check.end();
    }

    private static void removesAndUpdates() {
        DynamicShortPaths x = new DynamicShortPaths(5, 0, 10);
        Check.add(x, 0, 1, 1, OK);
        Check.add(x, 1, 2, 1, OK);
        Check.add(x, 0, 3, 4, OK);
        Check.add(x, 3, 2, 4, OK);
        Check.add(x, 2, 1, 3, OK);
        Check.add(x, 1, 4, 0, OK);
        Check.vertex(x, 2, 2, 2, 1);
        Check.remove(x, 0, 1, OK);
        Check.noEdge(x, 0, 1);
        Check.same("edgeCount()", x.edgeCount(), 5);
        Check.vertex(x, 2, 8, 2, 3);
        Check.vertex(x, 1, 11, 3, 2);
        Check.vertex(x, 4, 11, 4, 1);
        Check.remove(x, 3, 2, OK);
        Check.unreachable(x, 1);
        Check.unreachable(x, 2);
        Check.unreachable(x, 4);
        Check.vertex(x, 3, 4, 1, 0);
        Check.same("reachableCount()", x.reachableCount(), 2);
        Check.same("edgeCount()", x.edgeCount(), 4);
        Check.edge(x, 1, 2, 1);
        Check.edge(x, 2, 1, 3);
        Check.same("getSource()", x.getSource(), 0);
    }

    private static void letsHopsShrink() {
        DynamicShortPaths x = new DynamicShortPaths(4, 0, 10);
        Check.add(x, 0, 1, 1, OK);
        Check.add(x, 1, 2, 1, OK);
        Check.add(x, 2, 3, 1, OK);
        Check.add(x, 0, 3, 9, OK);
        Check.vertex(x, 3, 3, 3, 2);
        Check.remove(x, 1, 2, OK);
        Check.vertex(x, 3, 9, 1, 0);
        Check.unreachable(x, 2);
    }

    private static void cutsOffAZeroCycle() {
        DynamicShortPaths x = new DynamicShortPaths(4, 3, 10);
        Check.add(x, 3, 0, 2, OK);
        Check.add(x, 0, 1, -1, OK);
        Check.add(x, 1, 0, 1, OK);
        Check.add(x, 1, 1, 0, OK);
        Check.vertex(x, 1, 1, 2, 0);
        Check.remove(x, 3, 0, OK);
        Check.unreachable(x, 0);
        Check.unreachable(x, 1);
        Check.same("reachableCount()", x.reachableCount(), 1);
        Check.remove(x, 1, 1, OK);
        Check.noEdge(x, 1, 1);
        Check.same("edgeCount()", x.edgeCount(), 2);
    }

    private static void makesRoom() {
        DynamicShortPaths x = new DynamicShortPaths(2, 0, 1);
        Check.add(x, 0, 1, 1, OK);
        Check.add(x, 1, 0, 1, DynamicShortPaths.FULL);
        Check.remove(x, 0, 1, OK);
        Check.same("edgeCount()", x.edgeCount(), 0);
        Check.add(x, 1, 0, 1, OK);
        Check.remove(x, 1, 0, OK);
        Check.add(x, 1, 0, -1, OK);
        Check.edge(x, 1, 0, -1);
    }

    private static void refusesBadArguments() {
        DynamicShortPaths x = new DynamicShortPaths(4, 0, 10);
        Check.add(x, 0, 1, 3, OK);
        for (int bad : Check.invalidVertices(x)) {
            Check.remove(x, bad, 1, BAD_VERTEX);
            Check.remove(x, 0, bad, BAD_VERTEX);
            Check.remove(x, bad, bad, BAD_VERTEX);
        }
        Check.remove(x, 1, 0, MISSING);
        Check.remove(x, 0, 0, MISSING);
        Check.remove(x, 0, 1, OK);
        Check.remove(x, 0, 1, MISSING);
    }
}
