/** The boundary cases of the section 'Terms': GRAPH and the definitions after it. */
final class TermsTest {
    private static final int OK = DynamicShortPaths.OK;
    private static final int BAD_VERTEX = DynamicShortPaths.BAD_VERTEX;
    private static final int BAD_WEIGHT = DynamicShortPaths.BAD_WEIGHT;
    private static final int EXISTS = DynamicShortPaths.EXISTS;
    private static final int FULL = DynamicShortPaths.FULL;
    private static final int NEG_CYCLE = DynamicShortPaths.NEG_CYCLE;

    private TermsTest() {
    }

    public static void main(String[] args) {
        verticesAreFromZeroToNMinusOne();
        weightsAreWithinBothEnds();
        loopsAreAllowed();
        onePairHoldsOneEdge();
        maxEdgesIsTheMost();
        theSourceIsAlwaysValid();
        aFreshObjectHasNoEdges();
        termsFollowTheCurrentGraph();
        aPathFollowsEveryEdgeForward();
        theEmptyPathWeighsNothing();
        theSourceIsAlwaysReachable();
        aNegativeCycleIsBelowZero();
        aCycleIsReachableWithItsVertex();
        aNegativeLoopIsANegativeCycle();
        onlyAReachableCycleMatters();
        leastWeightThenLeastLengthThenLeastParent();
        theLongWayRoundGivesWay();
        aParentAlwaysExists();
        distancesReachBothEnds();
        Check.end();
    }

    private static void verticesAreFromZeroToNMinusOne() {
        Check.sentence("Vertices are 0..n-1. A vertex argument x is VALID when 0 <= x < n.");
        for (int n = 2; n <= 32; n++) {
            DynamicShortPaths x = new DynamicShortPaths(n, n / 2, 128);
            isValid(x, 0);
            isValid(x, n - 1);
            for (int bad : Check.invalidVertices(x)) {
                isNotValid(x, bad);
            }
        }
    }

    private static void isValid(DynamicShortPaths x, int v) {
        Check.can(x, v, v, 0, true);
        Check.add(x, v, v, 0, OK);
        Check.set(x, v, v, 1, OK);
        Check.edge(x, v, v, 1);
        Check.source(x, v, OK);
        Check.vertex(x, v, 0, 0, -1);
        Check.remove(x, v, v, OK);
        Check.isolate(x, v, 0);
    }

    private static void isNotValid(DynamicShortPaths x, int bad) {
        int good = x.vertexCount() - 1;
        Check.can(x, bad, good, 0, false);
        Check.can(x, good, bad, 0, false);
        Check.add(x, bad, good, 0, BAD_VERTEX);
        Check.add(x, good, bad, 0, BAD_VERTEX);
        Check.set(x, bad, good, 0, BAD_VERTEX);
        Check.set(x, good, bad, 0, BAD_VERTEX);
        Check.remove(x, bad, good, BAD_VERTEX);
        Check.remove(x, good, bad, BAD_VERTEX);
        Check.source(x, bad, BAD_VERTEX);
        Check.isolate(x, bad, -1);
        Check.noEdge(x, bad, good);
        Check.noEdge(x, good, bad);
        Check.unreachable(x, bad);
    }

    private static void weightsAreWithinBothEnds() {
        Check.sentence("An edge is an ordered pair (u,v) of valid vertices with an int weight in"
            + " [MIN_WEIGHT, MAX_WEIGHT].");
        for (int w = -1003; w <= 1003; w++) {
            DynamicShortPaths x = new DynamicShortPaths(2, 0, 2);
            boolean allowed = -1000 <= w && w <= 1000;
            Check.can(x, 0, 1, w, allowed);
            Check.add(x, 0, 1, w, allowed ? OK : BAD_WEIGHT);
            Check.same("getDist(1)", x.getDist(1), allowed ? w : 2147483647);
            Check.same("addEdge(1, 1, 7)", x.addEdge(1, 1, 7), OK);
            Check.set(x, 0, 1, w, allowed ? OK : BAD_WEIGHT);
        }
    }

    private static void loopsAreAllowed() {
        Check.sentence("u == v is allowed (a loop).");
        DynamicShortPaths x = new DynamicShortPaths(32, 7, 32);
        for (int v = 0; v < 32; v++) {
            Check.add(x, v, v, 0, OK);
            Check.edge(x, v, v, 0);
        }
        Check.same("edgeCount()", x.edgeCount(), 32);
        Check.same("reachableCount()", x.reachableCount(), 1);
        Check.vertex(x, 7, 0, 0, -1);
    }

    private static void onePairHoldsOneEdge() {
        Check.sentence("At most one edge per ordered pair is present.");
        DynamicShortPaths x = new DynamicShortPaths(11, 0, 128);
        int count = 0;
        for (int u = 0; u < 11; u++) {
            for (int v = 0; v < 11; v++) {
                Check.add(x, u, v, u + v, OK);
                Check.add(x, u, v, u + v + 1, EXISTS);
                count++;
                Check.same("edgeCount()", x.edgeCount(), count);
                Check.edge(x, u, v, u + v);
            }
        }
    }

    private static void maxEdgesIsTheMost() {
        Check.sentence("At most maxEdges edges are present at once.");
        for (int most = 1; most <= 128; most++) {
            DynamicShortPaths x = Graphs.full(32, most, 0);
            Check.same("edgeCount()", x.edgeCount(), most);
            Check.add(x, 31, 31, 0, FULL);
            Check.remove(x, 0, 0, OK);
            Check.add(x, 31, 31, 0, OK);
            Check.add(x, 0, 0, 0, FULL);
            Check.same("edgeCount()", x.edgeCount(), most);
        }
    }

    private static void theSourceIsAlwaysValid() {
        Check.sentence("One valid vertex is the SOURCE s.");
        for (int n = 2; n <= 32; n++) {
            DynamicShortPaths x = new DynamicShortPaths(n, Integer.MAX_VALUE, 1);
            Check.same("getSource()", x.getSource(), n - 1);
            Check.source(x, n, BAD_VERTEX);
            Check.source(x, 0, OK);
            Check.source(x, -1, BAD_VERTEX);
            Check.same("getSource()", x.getSource(), 0);
        }
    }

    private static void aFreshObjectHasNoEdges() {
        Check.sentence("A fresh object has no edges.");
        // Another object's edges must not show in a new one.
        Graphs.complete(11, 1);
        for (int n = 2; n <= 32; n++) {
            DynamicShortPaths x = new DynamicShortPaths(n, 0, 128);
            Check.same("edgeCount()", x.edgeCount(), 0);
            Check.same("the edges", Check.edges(x), "");
            Check.set(x, 0, n - 1, 0, DynamicShortPaths.MISSING);
            Check.remove(x, n - 1, 0, DynamicShortPaths.MISSING);
        }
    }

    private static void termsFollowTheCurrentGraph() {
        Check.sentence("The following are taken over the current edges and the current source.");
        DynamicShortPaths x = Graphs.path(4, 5);
        Check.remove(x, 1, 2, OK);
        Check.unreachable(x, 2);
        Check.unreachable(x, 3);
        Check.source(x, 2, OK);
        Check.unreachable(x, 0);
        Check.unreachable(x, 1);
        Check.vertex(x, 3, 5, 1, 2);
    }

    private static void aPathFollowsEveryEdgeForward() {
        Check.sentence("A path from x to y is a sequence x = x0, x1, .., xk = y with k >= 0 in which every pair"
            + " (x(i-1), x(i)) is a present edge. Its length is k.");
        for (int gap = 1; gap < 32; gap++) {
            DynamicShortPaths x = Graphs.path(32, 0);
            Check.remove(x, gap - 1, gap, OK);
            // The same pair the other way round is another edge.
            Check.add(x, gap, gap - 1, 0, OK);
            Check.same("reachableCount()", x.reachableCount(), gap);
            Check.vertex(x, gap - 1, 0, gap - 1, gap - 2);
            Check.unreachable(x, gap);
            Check.unreachable(x, 31);
        }
    }

    private static void theEmptyPathWeighsNothing() {
        Check.sentence("Its weight is the sum of the weights of those k edges, which is 0 when k = 0.");
        DynamicShortPaths x = new DynamicShortPaths(3, 1, 9);
        Check.vertex(x, 1, 0, 0, -1);
        // No way round back to the source, whatever it weighs, replaces the path without an edge.
        Check.add(x, 1, 1, 0, OK);
        Check.vertex(x, 1, 0, 0, -1);
        Check.add(x, 1, 0, -1000, OK);
        Check.add(x, 0, 1, 1000, OK);
        Check.vertex(x, 1, 0, 0, -1);
        Check.set(x, 1, 1, 1000, OK);
        Check.vertex(x, 1, 0, 0, -1);
    }

    private static void theSourceIsAlwaysReachable() {
        Check.sentence("v is REACHABLE when some path leads from s to v. s is always reachable.");
        for (int s = 0; s < 32; s++) {
            DynamicShortPaths x = new DynamicShortPaths(32, s, 128);
            Check.vertex(x, s, 0, 0, -1);
            int next = (s + 1) % 32;
            Check.add(x, next, s, -1000, OK);
            Check.unreachable(x, next);
            Check.add(x, s, next, 1000, OK);
            Check.vertex(x, next, 1000, 1, s);
            Check.isolate(x, s, 2);
            Check.vertex(x, s, 0, 0, -1);
            Check.same("reachableCount()", x.reachableCount(), 1);
        }
    }

    private static void aNegativeCycleIsBelowZero() {
        Check.sentence("A NEGATIVE CYCLE is a path of length >= 1 from a vertex to itself whose weight is < 0.");
        for (int length = 1; length <= 32; length++) {
            DynamicShortPaths x = Graphs.path(32, 1);
            int back = 1 - length;
            Check.add(x, length - 1, 0, back - 1, NEG_CYCLE);
            Check.add(x, length - 1, 0, back, OK);
            Check.set(x, length - 1, 0, back - 1, NEG_CYCLE);
            Check.vertex(x, 31, 31, 31, 30);
            // The same at the far end of the path, so that the cycle is met last.
            Check.add(x, 31, 32 - length, back - 1, length == 32 ? EXISTS : NEG_CYCLE);
            Check.add(x, 31, 32 - length, back, length == 32 ? EXISTS : OK);
            Check.vertex(x, 31, 31, 31, 30);
        }
    }

    private static void aCycleIsReachableWithItsVertex() {
        Check.sentence("It is REACHABLE when that vertex is reachable.");
        for (int at = 1; at < 32; at++) {
            DynamicShortPaths x = Graphs.path(32, 1000);
            Check.remove(x, at - 1, at, OK);
            Check.add(x, 31, 31, -1, OK);
            Check.add(x, at - 1, at, 1000, NEG_CYCLE);
            Check.set(x, 31, 31, 0, OK);
            Check.add(x, at - 1, at, 1000, OK);
            Check.vertex(x, 31, 31000, 31, 30);
        }
    }

    private static void aNegativeLoopIsANegativeCycle() {
        Check.sentence("A loop (x,x) with negative weight is a negative cycle.");
        DynamicShortPaths x = Graphs.path(32, -1000);
        for (int v = 0; v < 32; v++) {
            Check.add(x, v, v, -1, NEG_CYCLE);
            Check.add(x, v, v, -1000, NEG_CYCLE);
            Check.add(x, v, v, 0, OK);
            Check.set(x, v, v, -1, NEG_CYCLE);
        }
    }

    private static void onlyAReachableCycleMatters() {
        Check.sentence("The graph is CONSISTENT when it has no reachable negative cycle.");
        DynamicShortPaths x = new DynamicShortPaths(4, 3, 16);
        for (int u = 0; u < 3; u++) {
            for (int v = 0; v < 4; v++) {
                Check.add(x, u, v, -1000, OK);
            }
        }
        Check.add(x, 3, 3, 0, OK);
        Check.vertex(x, 3, 0, 0, -1);
        for (int v = 0; v < 3; v++) {
            Check.unreachable(x, v);
            Check.add(x, 3, v, 1000, NEG_CYCLE);
            Check.source(x, v, NEG_CYCLE);
        }
    }

    private static void leastWeightThenLeastLengthThenLeastParent() {
        Check.sentence("dist(v) is the least weight of any path from s to v; hops(v) is the least length among the"
            + " paths from s to v of weight dist(v); parent(s) is -1, and for v != s, parent(v) is the least vertex u");
        DynamicShortPaths x = new DynamicShortPaths(6, 5, 36);
        Check.add(x, 5, 4, 1, OK);
        Check.vertex(x, 4, 1, 1, 5);
        Check.add(x, 5, 3, 0, OK);
        Check.add(x, 3, 4, 1, OK);
        // The same weight by more edges: 3 is the lesser vertex, but no parent.
        Check.vertex(x, 4, 1, 1, 5);
        Check.set(x, 3, 4, 0, OK);
        // One less by more edges.
        Check.vertex(x, 4, 0, 2, 3);
        Check.add(x, 5, 0, 1000, OK);
        Check.add(x, 0, 4, -1000, OK);
        // The same weight by as many edges: the least vertex.
        Check.vertex(x, 4, 0, 2, 0);
        Check.vertex(x, 5, 0, 0, -1);
    }

    private static void theLongWayRoundGivesWay() {
        Check.sentence("hops(v) is the least length among the paths from s to v of weight dist(v);");
        // Two edges over the vertex at the other end weigh as much as the path; whichever way the vertices are
        // numbered, the longer path must not stay because it was met first.
        for (int k = 3; k < 31; k++) {
            DynamicShortPaths up = Graphs.path(32, 1);
            Check.remove(up, 30, 31, OK);
            Check.add(up, 31, k, k - 500, OK);
            Check.add(up, 0, 31, 500, OK);
            DynamicShortPaths down = new DynamicShortPaths(32, 31, 128);
            for (int v = 30; v > 0; v--) {
                Check.add(down, v + 1, v, 1, OK);
            }
            Check.add(down, 0, 31 - k, k - 500, OK);
            Check.add(down, 31, 0, 500, OK);
            for (int v = 1; v < 31; v++) {
                int hops = v < k ? v : v - k + 2;
                Check.vertex(up, v, v, hops, v == k ? 31 : v - 1);
                Check.vertex(down, 31 - v, v, hops, v == k ? 0 : 32 - v);
            }
        }
    }

    private static void aParentAlwaysExists() {
        Check.sentence("Such a u always exists.");
        for (DynamicShortPaths x : Graphs.emptyToFull()) {
            for (int s = 0; s < x.vertexCount(); s++) {
                x.setSource(s);
                for (int v = 0; v < x.vertexCount(); v++) {
                    boolean due = x.isReachable(v) && v != x.getSource();
                    Check.same("a parent of " + v, x.getParent(v) >= 0, due);
                }
            }
        }
    }

    private static void distancesReachBothEnds() {
        Check.sentence("Every |dist(v)| is at most 31 * 1000, so no int overflow occurs.");
        DynamicShortPaths low = Graphs.path(32, -1000);
        DynamicShortPaths high = Graphs.path(32, 1000);
        for (int v = 1; v < 32; v++) {
            Check.vertex(low, v, -1000 * v, v, v - 1);
            Check.vertex(high, v, 1000 * v, v, v - 1);
        }
        // A cycle as far below zero as can be, in a graph as full as can be, still only tells of itself.
        DynamicShortPaths x = new DynamicShortPaths(32, 0, 128);
        for (int i = 0; i < 127; i++) {
            Check.same("addEdge", x.addEdge(1 + i % 31, 1 + (i % 31 + i / 31) % 31, -1000), OK);
        }
        Check.add(x, 0, 1, -1000, NEG_CYCLE);
        Check.add(x, 0, 31, 1000, NEG_CYCLE);
        Check.source(x, 31, NEG_CYCLE);
        Check.vertex(x, 0, 0, 0, -1);
    }
}
