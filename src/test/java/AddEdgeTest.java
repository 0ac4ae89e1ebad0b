/** Promise 2: addEdge. */
final class AddEdgeTest {
    private static final int OK = DynamicShortPaths.OK;
    private static final int BAD_VERTEX = DynamicShortPaths.BAD_VERTEX;
    private static final int BAD_WEIGHT = DynamicShortPaths.BAD_WEIGHT;
    private static final int EXISTS = DynamicShortPaths.EXISTS;
    private static final int FULL = DynamicShortPaths.FULL;
    private static final int NEG_CYCLE = DynamicShortPaths.NEG_CYCLE;

    private AddEdgeTest() {
    }

    public static void main(String[] args) {
        insertsAndUpdates();
        takesBothWeightBounds();
        refusesBadArguments();
        refusesInTheListedOrder();
        treatsLoops();
        refusesCycles();
        keepsAnUnreachableCycleApart();
        changesNothingFromAnUnreachableTail();
        Check.end();
    }

    private static void insertsAndUpdates() {
        DynamicShortPaths x = new DynamicShortPaths(5, 1, 10);
        Check.add(x, 1, 0, 7, OK);
        Check.edge(x, 1, 0, 7);
        Check.noEdge(x, 0, 1);
        Check.same("edgeCount()", x.edgeCount(), 1);
        Check.same("reachableCount()", x.reachableCount(), 2);
        Check.vertex(x, 0, 7, 1, 1);
        Check.add(x, 1, 3, 2, OK);
        Check.add(x, 3, 0, -4, OK);
        Check.vertex(x, 0, -2, 2, 3);
        Check.add(x, 0, 4, 0, OK);
        Check.vertex(x, 4, -2, 3, 0);
        Check.add(x, 1, 4, -2, OK);
        Check.vertex(x, 4, -2, 1, 1);
        Check.unreachable(x, 2);
        Check.same("edgeCount()", x.edgeCount(), 5);
        Check.same("reachableCount()", x.reachableCount(), 4);
        Check.same("getSource()", x.getSource(), 1);
        Check.edge(x, 1, 0, 7);
    }

    private static void takesBothWeightBounds() {
        DynamicShortPaths x = new DynamicShortPaths(32, 0, 128);
        for (int v = 1; v < 32; v++) {
            Check.add(x, v - 1, v, -1000, OK);
            Check.vertex(x, v, -1000 * v, v, v - 1);
        }
        DynamicShortPaths y = new DynamicShortPaths(32, 31, 128);
        for (int v = 30; v >= 0; v--) {
            Check.add(y, v + 1, v, 1000, OK);
            Check.vertex(y, v, 1000 * (31 - v), 31 - v, v + 1);
        }
    }

    private static void refusesBadArguments() {
        DynamicShortPaths x = new DynamicShortPaths(4, 0, 10);
        Check.add(x, 0, 1, 3, OK);
        for (int bad : Check.invalidVertices(x)) {
            Check.add(x, bad, 0, 1, BAD_VERTEX);
            Check.add(x, 0, bad, 1, BAD_VERTEX);
            Check.add(x, bad, bad, 1, BAD_VERTEX);
        }
        int[] weights = {-1001, 1001, Integer.MIN_VALUE, Integer.MAX_VALUE};
        for (int bad : weights) {
            Check.add(x, 0, 2, bad, BAD_WEIGHT);
            Check.add(x, 2, 2, bad, BAD_WEIGHT);
        }
        Check.add(x, 0, 1, 3, EXISTS);
        Check.add(x, 0, 1, 4, EXISTS);
        Check.edge(x, 0, 1, 3);
    }

    private static void refusesInTheListedOrder() {
        DynamicShortPaths x = new DynamicShortPaths(3, 0, 2);
        Check.add(x, 0, 1, 1, OK);
        Check.add(x, 1, 1, 0, OK);
        Check.add(x, 3, 0, 1001, BAD_VERTEX);
        Check.add(x, 0, -1, -1001, BAD_VERTEX);
        Check.add(x, 0, 1, 1001, BAD_WEIGHT);
        Check.add(x, 2, 0, -1001, BAD_WEIGHT);
        Check.add(x, 1, 1, -5, EXISTS);
        Check.add(x, 1, 0, -5, FULL);
        Check.add(x, 0, 0, -1, FULL);
        Check.remove(x, 1, 1, OK);
        Check.add(x, 1, 0, -5, NEG_CYCLE);
        Check.add(x, 1, 0, -1, OK);
    }

    private static void treatsLoops() {
        DynamicShortPaths x = new DynamicShortPaths(3, 1, 9);
        Check.add(x, 1, 1, -1, NEG_CYCLE);
        Check.add(x, 1, 1, 0, OK);
        Check.vertex(x, 1, 0, 0, -1);
        Check.add(x, 0, 0, -1, OK);
        Check.unreachable(x, 0);
        Check.add(x, 2, 2, 5, OK);
        Check.same("edgeCount()", x.edgeCount(), 3);
        Check.add(x, 1, 2, 4, OK);
        Check.vertex(x, 2, 4, 1, 1);
    }

    private static void refusesCycles() {
        DynamicShortPaths x = new DynamicShortPaths(32, 0, 128);
        for (int v = 1; v < 32; v++) {
            Check.add(x, v - 1, v, 1, OK);
        }
        Check.add(x, 31, 0, -32, NEG_CYCLE);
        Check.add(x, 31, 0, -31, OK);
        Check.vertex(x, 0, 0, 0, -1);
        Check.vertex(x, 31, 31, 31, 30);
        Check.add(x, 5, 3, -3, NEG_CYCLE);
        Check.add(x, 5, 3, -2, OK);
        Check.vertex(x, 3, 3, 3, 2);
    }

    private static void keepsAnUnreachableCycleApart() {
        DynamicShortPaths x = new DynamicShortPaths(5, 0, 20);
        Check.add(x, 2, 3, 1, OK);
        Check.add(x, 3, 2, -2, OK);
        Check.add(x, 2, 0, -1000, OK);
        Check.add(x, 1, 3, 1000, OK);
        Check.add(x, 0, 2, 1000, NEG_CYCLE);
        Check.add(x, 0, 1, 1000, NEG_CYCLE);
        Check.add(x, 0, 4, 1, OK);
        Check.add(x, 4, 1, 0, NEG_CYCLE);
        Check.vertex(x, 4, 1, 1, 0);
        Check.same("reachableCount()", x.reachableCount(), 2);
    }

    private static void changesNothingFromAnUnreachableTail() {
        DynamicShortPaths x = new DynamicShortPaths(4, 3, 20);
        Check.add(x, 3, 2, 5, OK);
        Check.add(x, 0, 2, -1000, OK);
        Check.add(x, 0, 3, -1000, OK);
        Check.add(x, 0, 1, -1000, OK);
        Check.vertex(x, 3, 0, 0, -1);
        Check.vertex(x, 2, 5, 1, 3);
        Check.unreachable(x, 0);
        Check.unreachable(x, 1);
        Check.same("reachableCount()", x.reachableCount(), 2);
        Check.same("edgeCount()", x.edgeCount(), 4);
    }
}
