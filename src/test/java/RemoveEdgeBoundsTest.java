/** The boundary cases of promise 4, sentence by sentence. */
final class RemoveEdgeBoundsTest {
    private static final int OK = DynamicShortPaths.OK;
    private static final int BAD_VERTEX = DynamicShortPaths.BAD_VERTEX;
    private static final int MISSING = DynamicShortPaths.MISSING;

    private RemoveEdgeBoundsTest() {
    }

    public static void main(String[] args) {
        refusesVerticesThatAreNotValid();
        refusesAnAbsentEdge();
        neverMakesTheGraphInconsistent();
        removesFromTheFirstEdgeToTheLast();
        verticesMayBecomeUnreachable();
        distancesNeverShrink();
        hopsMayGrowOrShrink();
        leavesTheOtherEdges();
        aRefusedCallChangesNothing();
        Check.end();
    }

    private static void refusesVerticesThatAreNotValid() {
        Check.sentence("1. u or v is not valid: answers BAD_VERTEX.");
        for (DynamicShortPaths x : Graphs.emptyToFull()) {
            Check.withBadPairs(x, (u, v) -> Check.remove(x, u, v, BAD_VERTEX));
        }
    }

    private static void refusesAnAbsentEdge() {
        Check.sentence("2. The edge (u,v) is absent: answers MISSING.");
        for (int n = 2; n <= 32; n += 10) {
            DynamicShortPaths empty = new DynamicShortPaths(n, 0, 128);
            for (int i = 0; i < n * n; i++) {
                Check.remove(empty, i / n, i % n, MISSING);
            }
        }
        DynamicShortPaths x = Graphs.mixed(Graphs.MIXED_EDGES);
        Check.remove(x, 0, 2, MISSING);
        Check.remove(x, 2, 2, MISSING);
        Check.remove(x, 0, 0, OK);
        Check.remove(x, 0, 0, MISSING);
        Check.remove(x, 2, 0, OK);
        Check.remove(x, 2, 0, MISSING);
    }

    private static void neverMakesTheGraphInconsistent() {
        Check.sentence("A removal never makes the graph inconsistent.");
        // Cycles of weight zero in reach and one of weight -1 out of reach: each edge goes all the same.
        for (int i = 0; i < 36; i++) {
            DynamicShortPaths x = Graphs.mixed(128);
            Check.add(x, 5, 2, -3, OK);
            boolean present = x.hasEdge(i / 6, i % 6);
            Check.remove(x, i / 6, i % 6, present ? OK : MISSING);
            Laws.hold(x);
        }
    }

    private static void removesFromTheFirstEdgeToTheLast() {
        Check.sentence("Otherwise the edge is removed and the call answers OK.");
        DynamicShortPaths one = new DynamicShortPaths(2, 0, 1);
        Check.add(one, 0, 1, 1, OK);
        Check.remove(one, 0, 1, OK);
        Check.same("emptied", Check.answers(one), Check.answers(new DynamicShortPaths(2, 0, 1)));
        Check.sentence("After it, hasEdge(u,v) is false, getWeight(u,v) is NO_EDGE, and edgeCount() shrinks by one.");
        int[] mosts = {1, 2, 127, 128};
        for (int most : mosts) {
            DynamicShortPaths x = Graphs.full(32, most, 1);
            for (int i = 0; i < most; i++) {
                Check.remove(x, i / 32, i % 32, OK);
                Check.noEdge(x, i / 32, i % 32);
                Check.same("edgeCount()", x.edgeCount(), most - i - 1);
            }
            Check.same("emptied", Check.answers(x), Check.answers(new DynamicShortPaths(32, 31, most)));
            Check.remove(x, 0, 0, MISSING);
        }
        DynamicShortPaths all = Graphs.complete(11, 0);
        for (int i = 120; i >= 0; i--) {
            Check.remove(all, i / 11, i % 11, OK);
            Check.noEdge(all, i / 11, i % 11);
            Check.same("edgeCount()", all.edgeCount(), i);
        }
    }

    private static void verticesMayBecomeUnreachable() {
        Check.sentence("vertices may become unreachable (and then answer NO_DIST, -1 hops and -1 parent)");
        for (int cut = 1; cut < 32; cut++) {
            DynamicShortPaths x = Graphs.path(32, -1000);
            Check.remove(x, cut - 1, cut, OK);
            isCutOff(x, cut);
            // A cycle of weight zero behind the cut must not hold itself up.
            DynamicShortPaths y = Graphs.path(32, 0);
            Check.add(y, 31, cut, 0, OK);
            Check.remove(y, cut - 1, cut, OK);
            isCutOff(y, cut);
        }
    }

    private static void isCutOff(DynamicShortPaths x, int cut) {
        Check.same("reachableCount()", x.reachableCount(), cut);
        for (int v = cut; v < 32; v++) {
            Check.unreachable(x, v);
        }
    }

    private static void distancesNeverShrink() {
        Check.sentence("distances of still-reachable vertices never shrink and may grow");
        DynamicShortPaths x = Graphs.complete(5, 0);
        for (int i = 0; i < 25; i++) {
            int far = (i / 5 - i % 5) * (i / 5 - i % 5);
            Check.same("setWeight", x.setWeight(i / 5, i % 5, far), OK);
        }
        for (int i = 24; i >= 0; i--) {
            int[] before = distances(x);
            int at = i * 7 % 25;
            Check.remove(x, at / 5, at % 5, OK);
            int[] after = distances(x);
            for (int v = 0; v < 5; v++) {
                // NO_DIST is the greatest of all, so a vertex cut off passes too.
                Check.same("no less for " + v, after[v] >= before[v], true);
            }
        }
        DynamicShortPaths y = Graphs.path(3, -1000);
        Check.add(y, 0, 2, 1000, OK);
        Check.vertex(y, 2, -2000, 2, 1);
        Check.remove(y, 1, 2, OK);
        Check.vertex(y, 2, 1000, 1, 0);
    }

    private static int[] distances(DynamicShortPaths x) {
        int[] all = new int[x.vertexCount()];
        for (int v = 0; v < all.length; v++) {
            all[v] = x.getDist(v);
        }
        return all;
    }

    private static void hopsMayGrowOrShrink() {
        Check.sentence("and hops may grow or shrink.");
        DynamicShortPaths x = Graphs.path(32, 0);
        Check.add(x, 0, 31, 0, OK);
        Check.vertex(x, 31, 0, 1, 0);
        // The distance stays, and only the number of edges tells.
        Check.remove(x, 0, 31, OK);
        Check.vertex(x, 31, 0, 31, 30);
        Check.add(x, 0, 31, 1, OK);
        Check.vertex(x, 31, 0, 31, 30);
        Check.remove(x, 15, 16, OK);
        Check.vertex(x, 31, 1, 1, 0);
    }

    private static void leavesTheOtherEdges() {
        Check.sentence("The source and all other edges and weights do not change.");
        for (int i = 0; i < 36; i++) {
            DynamicShortPaths x = Graphs.mixed(Graphs.MIXED_EDGES);
            String before = Check.allBut(x, i / 6, i % 6);
            x.removeEdge(i / 6, i % 6);
            Check.noEdge(x, i / 6, i % 6);
            Check.same("after removeEdge(" + i / 6 + ", " + i % 6 + ")", Check.allBut(x, i / 6, i % 6), before);
        }
    }

    private static void aRefusedCallChangesNothing() {
        Check.sentence("A refused call changes nothing.");
        DynamicShortPaths x = Graphs.mixed(Graphs.MIXED_EDGES);
        String before = Check.answers(x);
        for (int v = 0; v < 6; v++) {
            Check.same("removeEdge(6, " + v + ")", x.removeEdge(6, v), BAD_VERTEX);
            Check.same("removeEdge(" + v + ", -1)", x.removeEdge(v, -1), BAD_VERTEX);
            Check.same("removeEdge(4, " + v + ")", x.removeEdge(4, v), MISSING);
        }
        Check.same("after all of them", Check.answers(x), before);
        // No place has come free by them.
        Check.add(x, 4, 4, 1, DynamicShortPaths.FULL);
    }
}
