/** Promises 6 and 16: setSource and getSource. */
final class SetSourceTest {
    private static final int OK = DynamicShortPaths.OK;
    private static final int BAD_VERTEX = DynamicShortPaths.BAD_VERTEX;
    private static final int NEG_CYCLE = DynamicShortPaths.NEG_CYCLE;

    private SetSourceTest() {
    }

    public static void main(String[] args) {
        takesEverythingFromTheNewSource();
        refusesAReachableCycle();
        refusesBadVertices();
        Check.end();
    }

    private static void takesEverythingFromTheNewSource() {
        DynamicShortPaths x = new DynamicShortPaths(4, 0, 10);
        Check.add(x, 0, 1, 5, OK);
        Check.add(x, 1, 2, -3, OK);
        Check.add(x, 2, 1, 3, OK);
        Check.source(x, 2, OK);
        Check.same("getSource()", x.getSource(), 2);
        Check.unreachable(x, 0);
        Check.vertex(x, 1, 3, 1, 2);
        Check.vertex(x, 2, 0, 0, -1);
        Check.same("reachableCount()", x.reachableCount(), 2);
        Check.same("edgeCount()", x.edgeCount(), 3);
        Check.edge(x, 0, 1, 5);
        String before = Check.answers(x);
        Check.source(x, 2, OK);
        Check.same("after the same source again", Check.answers(x), before);
        Check.source(x, 3, OK);
        Check.vertex(x, 3, 0, 0, -1);
        Check.same("getSource()", x.getSource(), 3);
        Check.same("reachableCount()", x.reachableCount(), 1);
        Check.source(x, 0, OK);
        Check.vertex(x, 1, 5, 1, 0);
        Check.vertex(x, 2, 2, 2, 1);
    }

    private static void refusesAReachableCycle() {
        DynamicShortPaths x = new DynamicShortPaths(6, 0, 20);
        Check.add(x, 0, 1, 1, OK);
        Check.add(x, 2, 3, 1, OK);
        Check.add(x, 3, 2, -2, OK);
        Check.add(x, 4, 2, 1000, OK);
        Check.add(x, 5, 5, -1, OK);
        Check.source(x, 2, NEG_CYCLE);
        Check.source(x, 3, NEG_CYCLE);
        Check.source(x, 4, NEG_CYCLE);
        Check.source(x, 5, NEG_CYCLE);
        Check.same("getSource()", x.getSource(), 0);
        Check.source(x, 1, OK);
        Check.same("getSource()", x.getSource(), 1);
        Check.set(x, 3, 2, -1, OK);
        Check.source(x, 4, OK);
        Check.vertex(x, 2, 1000, 1, 4);
        Check.vertex(x, 3, 1001, 2, 2);
    }

    private static void refusesBadVertices() {
        DynamicShortPaths x = new DynamicShortPaths(4, 1, 10);
        Check.add(x, 1, 2, 5, OK);
        for (int bad : Check.invalidVertices(x)) {
            Check.source(x, bad, BAD_VERTEX);
            Check.same("getSource()", x.getSource(), 1);
        }
    }
}
