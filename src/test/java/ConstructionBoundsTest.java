/** The boundary cases of promise 1, sentence by sentence. */
final class ConstructionBoundsTest {
    private static final int[] ENDS = {
        Integer.MIN_VALUE, Integer.MIN_VALUE + 1, -65536, -129, -33, -1, 0, 1, 2, 3, 30, 31, 32, 33,
        127, 128, 129, 256, 65536, Integer.MAX_VALUE - 1, Integer.MAX_VALUE
    };

    private ConstructionBoundsTest() {
    }

    public static void main(String[] args) {
        everyIntIsAccepted();
        verticesAreClamped();
        theSourceIsClampedByTheClampedVertices();
        edgesAreClamped();
        theExamplesHold();
        theStartIsBare();
        maxEdgesOnlyLimits();
        Check.end();
    }

    private static int clamped(int value, int least, int greatest) {
        return Math.max(least, Math.min(greatest, value));
    }

    private static void starts(int n, int source, int maxEdges, int dueN, int dueSource) {
        DynamicShortPaths x = new DynamicShortPaths(n, source, maxEdges);
        String call = "(" + n + ", " + source + ", " + maxEdges + ")";
        Check.same("vertexCount() of " + call, x.vertexCount(), dueN);
        Check.same("getSource() of " + call, x.getSource(), dueSource);
        Check.same("edgeCount() of " + call, x.edgeCount(), 0);
        Check.same("reachableCount() of " + call, x.reachableCount(), 1);
    }

    private static void everyIntIsAccepted() {
        Check.sentence("`DynamicShortPaths(int n, int source, int maxEdges)` accepts any int values and never fails.");
        for (int n : ENDS) {
            for (int source : ENDS) {
                for (int maxEdges : ENDS) {
                    int dueN = clamped(n, 2, 32);
                    starts(n, source, maxEdges, dueN, clamped(source, 0, dueN - 1));
                }
            }
        }
    }

    private static void verticesAreClamped() {
        Check.sentence("n is clamped into [2, 32].");
        for (int n = -40; n <= 2; n++) {
            starts(n, 0, 1, 2, 0);
        }
        for (int n = 2; n <= 32; n++) {
            starts(n, 0, 1, n, 0);
        }
        for (int n = 32; n <= 300; n++) {
            starts(n, 0, 1, 32, 0);
        }
    }

    private static void theSourceIsClampedByTheClampedVertices() {
        Check.sentence("source is then clamped into [0, n-1], using the clamped n.");
        for (int n = 2; n <= 32; n++) {
            starts(n, -1, 1, n, 0);
            for (int source = 0; source < n; source++) {
                starts(n, source, 1, n, source);
            }
            starts(n, n, 1, n, n - 1);
            starts(n, n + 1, 1, n, n - 1);
        }
        // The n given would leave another source than the clamped n.
        starts(1, 1, 1, 2, 1);
        starts(0, 1, 1, 2, 1);
        starts(Integer.MIN_VALUE, 1, 1, 2, 1);
        starts(33, 32, 1, 32, 31);
        starts(Integer.MAX_VALUE, Integer.MAX_VALUE - 1, 1, 32, 31);
    }

    private static void edgesAreClamped() {
        Check.sentence("maxEdges is clamped into [1, 128].");
        for (int maxEdges = -3; maxEdges <= 131; maxEdges++) {
            holdsExactly(maxEdges, clamped(maxEdges, 1, 128));
        }
        for (int maxEdges : ENDS) {
            holdsExactly(maxEdges, clamped(maxEdges, 1, 128));
        }
    }

    private static void holdsExactly(int maxEdges, int due) {
        DynamicShortPaths x = new DynamicShortPaths(12, 11, maxEdges);
        int taken = 0;
        int answer = DynamicShortPaths.OK;
        while (taken < 144 && answer == DynamicShortPaths.OK) {
            answer = x.addEdge(taken / 12, taken % 12, 1);
            taken += answer == DynamicShortPaths.OK ? 1 : 0;
        }
        Check.same("edges taken with maxEdges " + maxEdges, taken, due);
        Check.same("the answer to one more", answer, DynamicShortPaths.FULL);
    }

    private static void theExamplesHold() {
        Check.sentence("Clamping is done in this order, and a value below the least becomes the least while a value"
            + " above the greatest becomes the greatest");
        starts(-1, -1, -1, 2, 0);
        starts(1, 2, 129, 2, 1);
        starts(33, 32, 0, 32, 31);
        Check.sentence("For example, (100, 50, 0) gives n = 32, source 31 and maxEdges 1; (-5, 3, 500) gives n = 2,"
            + " source 1 and maxEdges 128");
        starts(100, 50, 0, 32, 31);
        DynamicShortPaths x = new DynamicShortPaths(100, 50, 0);
        Check.add(x, 31, 31, 1, DynamicShortPaths.OK);
        Check.add(x, 31, 30, 1, DynamicShortPaths.FULL);
        starts(-5, 3, 500, 2, 1);
        DynamicShortPaths y = new DynamicShortPaths(-5, 3, 500);
        for (int i = 0; i < 4; i++) {
            Check.add(y, i / 2, i % 2, 1, DynamicShortPaths.OK);
        }
        Check.add(y, 0, 0, 1, DynamicShortPaths.EXISTS);
        Check.add(y, 2, 0, 1, DynamicShortPaths.BAD_VERTEX);
    }

    private static void theStartIsBare() {
        Check.sentence("The new object has no edges, and its source is the clamped source. So at the start:"
            + " vertexCount() is the clamped n, getSource() is the clamped source, edgeCount() is 0, hasEdge answers"
            + " false and getWeight answers NO_EDGE for every pair, only the source is reachable, reachableCount() is"
            + " 1, the source has distance 0, hops 0 and parent -1, and every other vertex has distance NO_DIST, hops"
            + " -1 and parent -1.");
        for (int n = 2; n <= 32; n++) {
            for (int source = 0; source < n; source++) {
                isBare(new DynamicShortPaths(n, source, 128), n, source);
            }
        }
        isBare(new DynamicShortPaths(Integer.MIN_VALUE, Integer.MAX_VALUE, Integer.MIN_VALUE), 2, 1);
        isBare(new DynamicShortPaths(Integer.MAX_VALUE, Integer.MIN_VALUE, Integer.MAX_VALUE), 32, 0);
    }

    private static void isBare(DynamicShortPaths x, int n, int source) {
        Check.same("vertexCount()", x.vertexCount(), n);
        Check.same("getSource()", x.getSource(), source);
        Check.same("edgeCount()", x.edgeCount(), 0);
        Check.same("reachableCount()", x.reachableCount(), 1);
        for (int v = 0; v < n; v++) {
            for (int u = 0; u < n; u++) {
                Check.noEdge(x, u, v);
            }
            if (v != source) {
                Check.unreachable(x, v);
            }
        }
        Check.vertex(x, source, 0, 0, -1);
    }

    private static void maxEdgesOnlyLimits() {
        Check.sentence("The clamped maxEdges is not answered by any method; it only limits how many edges may"
            + " be present.");
        String due = Check.answers(Graphs.mixed(128));
        for (int maxEdges = Graphs.MIXED_EDGES; maxEdges < 128; maxEdges++) {
            Check.same("with maxEdges " + maxEdges, Check.answers(Graphs.mixed(maxEdges)), due);
        }
    }
}
