/** The boundary cases of promise 7, sentence by sentence. */
final class CanSetBoundsTest {
    private static final int OK = DynamicShortPaths.OK;

    private CanSetBoundsTest() {
    }

    public static void main(String[] args) {
        needsValidVertices();
        needsAnAllowedWeight();
        needsAPlaceForANewEdge();
        needsAConsistentGraph();
        agreesWithTheCallItself();
        aPresentEdgeNeedsNoPlace();
        theCurrentWeightIsAlwaysPossible();
        changesNothing();
        Check.end();
    }

    private static void needsValidVertices() {
        Check.sentence("answers true exactly when all of these hold: u and v are valid;");
        for (DynamicShortPaths x : Graphs.emptyToFull()) {
            Check.withBadPairs(x, (u, v) -> Check.can(x, u, v, 1, false));
        }
        for (int n = 2; n <= 32; n++) {
            DynamicShortPaths x = new DynamicShortPaths(n, 0, 1);
            Check.can(x, 0, n - 1, 1, true);
            Check.can(x, n - 1, 0, 1, true);
        }
    }

    private static void needsAnAllowedWeight() {
        Check.sentence("w is in [MIN_WEIGHT, MAX_WEIGHT];");
        DynamicShortPaths x = Graphs.mixed(128);
        for (int bad : Check.badWeights()) {
            // Present and absent, in reach and out of it.
            Check.can(x, 2, 0, bad, false);
            Check.can(x, 1, 3, bad, false);
            Check.can(x, 2, 4, bad, false);
            Check.can(x, 4, 4, bad, false);
        }
        int[] ends = {-1000, 1000};
        for (int w : ends) {
            Check.can(x, 2, 0, w, true);
            Check.can(x, 1, 3, w, true);
            Check.can(x, 2, 4, w, true);
            Check.can(x, 4, 4, w, true);
        }
    }

    private static void needsAPlaceForANewEdge() {
        Check.sentence("if (u,v) is absent, then edgeCount() < maxEdges;");
        for (int most = 1; most <= 128; most++) {
            DynamicShortPaths x = Graphs.full(32, most, 1);
            Check.can(x, 31, 31, 1, false);
            Check.can(x, 31, 0, 1, false);
            Check.remove(x, 0, 0, OK);
            Check.can(x, 31, 31, 1, true);
            Check.can(x, 0, 0, 1, true);
        }
    }

    private static void needsAConsistentGraph() {
        Check.sentence("and the graph in which (u,v) is present with weight w (whether inserted or re-weighted) is"
            + " consistent.");
        for (int length = 1; length <= 32; length++) {
            DynamicShortPaths x = Graphs.path(32, 1);
            int back = 1 - length;
            Check.can(x, length - 1, 0, back - 1, false);
            Check.can(x, length - 1, 0, back, true);
            Check.add(x, length - 1, 0, back, OK);
            Check.can(x, length - 1, 0, back - 1, false);
            Check.can(x, length - 1, 0, back + 1, true);
            if (length > 1) {
                Check.can(x, 0, 1, 0, false);
                Check.can(x, 0, 1, 2, true);
            }
        }
        DynamicShortPaths x = Graphs.mixed(128);
        Check.can(x, 2, 1, 1000, false);
        Check.can(x, 4, 1, -1000, true);
        Check.can(x, 2, 2, -1, false);
        Check.can(x, 4, 4, -1, true);
    }

    private static void agreesWithTheCallItself() {
        Check.sentence("This is exactly when addEdge(u,v,w) (if (u,v) is absent) or setWeight(u,v,w) (if (u,v) is"
            + " present) would answer OK.");
        int[] weights = {-1001, -1000, -9, -8, -4, -3, -1, 0, 1, 1000, 1001};
        int[] mosts = {Graphs.MIXED_EDGES, Graphs.MIXED_EDGES + 1};
        for (int most : mosts) {
            DynamicShortPaths x = Graphs.mixed(most);
            for (int i = 0; i < 64; i++) {
                for (int w : weights) {
                    int u = i / 8 - 1;
                    int v = i % 8 - 1;
                    DynamicShortPaths y = Graphs.twin(x, most);
                    int answer = y.hasEdge(u, v) ? y.setWeight(u, v, w) : y.addEdge(u, v, w);
                    Check.can(x, u, v, w, answer == OK);
                }
            }
        }
    }

    private static void aPresentEdgeNeedsNoPlace() {
        Check.sentence("When (u,v) is present, the edge count does not matter");
        int[] mosts = {1, 2, 127, 128};
        for (int most : mosts) {
            DynamicShortPaths x = Graphs.full(32, most, 1);
            for (int i = 0; i < most; i++) {
                Check.can(x, i / 32, i % 32, 2, true);
            }
            Check.can(x, 31, 31, 2, false);
        }
        DynamicShortPaths all = Graphs.complete(11, 0);
        Check.can(all, 10, 10, 1000, true);
        Check.can(all, 10, 10, -1, false);
    }

    private static void theCurrentWeightIsAlwaysPossible() {
        Check.sentence("and when w equals its current weight the answer is true.");
        for (DynamicShortPaths x : Graphs.emptyToFull()) {
            int n = x.vertexCount();
            for (int i = 0; i < n * n; i++) {
                if (x.hasEdge(i / n, i % n)) {
                    Check.can(x, i / n, i % n, x.getWeight(i / n, i % n), true);
                }
            }
        }
        DynamicShortPaths x = Graphs.path(2, -1000);
        Check.add(x, 1, 0, 1000, OK);
        Check.can(x, 0, 1, -1000, true);
        Check.can(x, 1, 0, 1000, true);
    }

    private static void changesNothing() {
        Check.sentence("This call changes nothing.");
        DynamicShortPaths x = Graphs.mixed(Graphs.MIXED_EDGES + 1);
        String before = Check.answers(x);
        for (int i = 0; i < 64; i++) {
            for (int w = -1001; w <= 1001; w += 77) {
                x.canSet(i / 8 - 1, i % 8 - 1, w);
                Check.same("after canSet", Check.answers(x), before);
            }
        }
        // Nor does it take the free place, or keep what it tried.
        Check.add(x, 2, 1, 0, DynamicShortPaths.NEG_CYCLE);
        Check.add(x, 2, 4, 7, OK);
        Check.vertex(x, 4, 7, 1, 2);
        Check.same("a twin", Check.answers(Graphs.twin(x, 128)), Check.answers(x));
    }
}
