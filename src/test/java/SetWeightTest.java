/** Promise 3: setWeight. */
final class SetWeightTest {
    private static final int OK = DynamicShortPaths.OK;
    private static final int BAD_VERTEX = DynamicShortPaths.BAD_VERTEX;
    private static final int BAD_WEIGHT = DynamicShortPaths.BAD_WEIGHT;
    private static final int MISSING = DynamicShortPaths.MISSING;
    private static final int NEG_CYCLE = DynamicShortPaths.NEG_CYCLE;

    private SetWeightTest() {
    }

    public static void main(String[] args) {
        movesDistancesBothWays();
        keepsTheSameWeight();
        worksOnAFullGraph();
        refusesBadArguments();
        refusesInTheListedOrder();
        refusesCycles();
        changesUnreachableEdgesFreely();
        Check.end();
    }

    private static void movesDistancesBothWays() {
        DynamicShortPaths x = new DynamicShortPaths(4, 0, 10);
        Check.add(x, 0, 1, 5, OK);
        Check.add(x, 0, 2, 3, OK);
        Check.add(x, 2, 1, 3, OK);
        Check.add(x, 1, 3, 1, OK);
        Check.set(x, 0, 1, 6, OK);
        Check.vertex(x, 1, 6, 1, 0);
        Check.set(x, 0, 1, 7, OK);
        Check.vertex(x, 1, 6, 2, 2);
        Check.vertex(x, 3, 7, 3, 1);
        Check.set(x, 2, 1, -1000, OK);
        Check.vertex(x, 1, -997, 2, 2);
        Check.vertex(x, 3, -996, 3, 1);
        Check.set(x, 2, 1, 1000, OK);
        Check.vertex(x, 1, 7, 1, 0);
        Check.vertex(x, 3, 8, 2, 1);
        Check.edge(x, 2, 1, 1000);
        Check.edge(x, 0, 1, 7);
        Check.edge(x, 0, 2, 3);
        Check.edge(x, 1, 3, 1);
        Check.noEdge(x, 1, 2);
        Check.same("edgeCount()", x.edgeCount(), 4);
        Check.same("reachableCount()", x.reachableCount(), 4);
        Check.same("getSource()", x.getSource(), 0);
    }

    private static void keepsTheSameWeight() {
        DynamicShortPaths x = new DynamicShortPaths(3, 0, 10);
        Check.add(x, 0, 1, -4, OK);
        Check.add(x, 1, 2, 4, OK);
        Check.add(x, 2, 0, 0, OK);
        String before = Check.answers(x);
        Check.set(x, 0, 1, -4, OK);
        Check.set(x, 2, 0, 0, OK);
        Check.same("after setting equal weights", Check.answers(x), before);
    }

    private static void worksOnAFullGraph() {
        DynamicShortPaths x = new DynamicShortPaths(3, 2, 1);
        Check.add(x, 2, 0, 9, OK);
        Check.set(x, 2, 0, -9, OK);
        Check.vertex(x, 0, -9, 1, 2);
        Check.same("edgeCount()", x.edgeCount(), 1);
    }

    private static void refusesBadArguments() {
        DynamicShortPaths x = new DynamicShortPaths(4, 0, 10);
        Check.add(x, 0, 1, 3, OK);
        for (int bad : Check.invalidVertices(x)) {
            Check.set(x, bad, 1, 1, BAD_VERTEX);
            Check.set(x, 0, bad, 1, BAD_VERTEX);
            Check.set(x, bad, bad, 1, BAD_VERTEX);
        }
        int[] weights = {-1001, 1001, Integer.MIN_VALUE, Integer.MAX_VALUE};
        for (int bad : weights) {
            Check.set(x, 0, 1, bad, BAD_WEIGHT);
        }
        Check.set(x, 1, 0, 1, MISSING);
        Check.set(x, 2, 2, 1, MISSING);
    }

    private static void refusesInTheListedOrder() {
        DynamicShortPaths x = new DynamicShortPaths(3, 0, 2);
        Check.add(x, 0, 1, 1, OK);
        Check.set(x, 3, 0, 1001, BAD_VERTEX);
        Check.set(x, 0, -1, -1001, BAD_VERTEX);
        Check.set(x, 1, 0, 1001, BAD_WEIGHT);
        Check.set(x, 1, 0, -5, MISSING);
        Check.set(x, 0, 0, -5, MISSING);
        Check.remove(x, 0, 1, OK);
        Check.set(x, 0, 1, 1, MISSING);
    }

    private static void refusesCycles() {
        DynamicShortPaths x = new DynamicShortPaths(4, 0, 10);
        Check.add(x, 0, 1, 2, OK);
        Check.add(x, 1, 2, 2, OK);
        Check.add(x, 2, 1, 2, OK);
        Check.set(x, 2, 1, -3, NEG_CYCLE);
        Check.set(x, 2, 1, -2, OK);
        Check.vertex(x, 1, 2, 1, 0);
        Check.vertex(x, 2, 4, 2, 1);
        Check.set(x, 1, 2, 1, NEG_CYCLE);
        Check.add(x, 2, 2, 0, OK);
        Check.set(x, 2, 2, -1, NEG_CYCLE);
        Check.set(x, 2, 2, 1000, OK);
    }

    private static void changesUnreachableEdgesFreely() {
        DynamicShortPaths x = new DynamicShortPaths(4, 0, 10);
        Check.add(x, 2, 3, 1, OK);
        Check.add(x, 3, 2, 1, OK);
        Check.add(x, 3, 3, 0, OK);
        Check.set(x, 3, 2, -1000, OK);
        Check.set(x, 3, 3, -1000, OK);
        Check.edge(x, 3, 2, -1000);
        Check.edge(x, 3, 3, -1000);
        Check.unreachable(x, 2);
        Check.unreachable(x, 3);
        Check.same("reachableCount()", x.reachableCount(), 1);
    }
}
