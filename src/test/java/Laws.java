/** What the document's list says of every object after every call, read off the getters alone. */
final class Laws {
    private Laws() {
    }

    static void hold(DynamicShortPaths x) {
        String callers = Check.sentence();
        sourceStandsAtZero(x);
        edgesStretchNoFurther(x);
        parentsLeadToTheSource(x);
        unreachableVerticesHaveNothing(x);
        Check.sentence(callers);
    }

    private static void sourceStandsAtZero(DynamicShortPaths x) {
        Check.sentence("isReachable(s) is true, getDist(s) == 0, getHops(s) == 0 and getParent(s) == -1.");
        Check.vertex(x, x.getSource(), 0, 0, -1);
    }

    private static void edgesStretchNoFurther(DynamicShortPaths x) {
        Check.sentence("if hasEdge(u,v) and isReachable(u), then isReachable(v) and"
            + " getDist(u) + getWeight(u,v) >= getDist(v).");
        int n = x.vertexCount();
        for (int u = 0; u < n; u++) {
            for (int v = 0; v < n; v++) {
                if (x.hasEdge(u, v) && x.isReachable(u)) {
                    Check.same("isReachable(" + v + ")", x.isReachable(v), true);
                    boolean held = x.getDist(u) + x.getWeight(u, v) >= x.getDist(v);
                    Check.same("held by (" + u + ", " + v + ")", held, true);
                }
            }
        }
    }

    private static void parentsLeadToTheSource(DynamicShortPaths x) {
        for (int v = 0; v < x.vertexCount(); v++) {
            if (v != x.getSource() && x.isReachable(v)) {
                parentIsBefore(x, v);
                wayBackIsThePath(x, v);
            }
        }
    }

    private static void parentIsBefore(DynamicShortPaths x, int v) {
        Check.sentence("p = getParent(v) satisfies 0 <= p < n, hasEdge(p,v), isReachable(p),"
            + " getDist(p) + getWeight(p,v) == getDist(v) and getHops(p) + 1 == getHops(v).");
        int p = x.getParent(v);
        Check.same("0 <= getParent(" + v + ") < n", 0 <= p && p < x.vertexCount(), true);
        Check.same("hasEdge(" + p + ", " + v + ")", x.hasEdge(p, v), true);
        Check.same("isReachable(" + p + ")", x.isReachable(p), true);
        Check.same("getDist(" + v + ")", x.getDist(v), (long) x.getDist(p) + x.getWeight(p, v));
        Check.same("getHops(" + v + ")", x.getHops(v), x.getHops(p) + 1);
    }

    private static void wayBackIsThePath(DynamicShortPaths x, int v) {
        Check.sentence("Following parents from v reaches s in exactly getHops(v) steps, along edges whose weights sum"
            + " to getDist(v).");
        int at = v;
        long sum = 0;
        for (int step = 0; step < x.getHops(v); step++) {
            Check.same("the source before the last step", at == x.getSource(), false);
            int p = x.getParent(at);
            sum += x.getWeight(p, at);
            at = p;
        }
        Check.same("the end of the way from " + v, at, x.getSource());
        Check.same("the weight of the way from " + v, sum, x.getDist(v));
    }

    private static void unreachableVerticesHaveNothing(DynamicShortPaths x) {
        Check.sentence("For every v in [0,n) with isReachable(v) false: getDist(v) == NO_DIST, getHops(v) == -1 and"
            + " getParent(v) == -1.");
        for (int v = 0; v < x.vertexCount(); v++) {
            if (!x.isReachable(v)) {
                Check.unreachable(x, v);
            }
        }
    }
}
