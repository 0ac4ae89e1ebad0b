/** The boundary cases of promise 6, sentence by sentence. */
final class SetSourceBoundsTest {
    private static final int OK = DynamicShortPaths.OK;
    private static final int BAD_VERTEX = DynamicShortPaths.BAD_VERTEX;
    private static final int NEG_CYCLE = DynamicShortPaths.NEG_CYCLE;

    private SetSourceBoundsTest() {
    }

    public static void main(String[] args) {
        refusesVerticesThatAreNotValid();
        refusesAnInconsistentGraph();
        takesTheFirstVertexAndTheLast();
        theSameSourceChangesNothing();
        takesEverythingFromTheNewSource();
        leavesTheEdges();
        keepsOutOfReachWhatWasOutOfReach();
        Check.end();
    }

    private static void refusesVerticesThatAreNotValid() {
        Check.sentence("1. s is not valid: answers BAD_VERTEX.");
        for (DynamicShortPaths x : Graphs.emptyToFull()) {
            int before = x.getSource();
            for (int bad : Check.invalidVertices(x)) {
                Check.source(x, bad, BAD_VERTEX);
                Check.same("getSource()", x.getSource(), before);
            }
        }
    }

    private static void refusesAnInconsistentGraph() {
        Check.sentence("2. The graph with s as its source is not consistent: answers NEG_CYCLE.");
        // The cycle lies 0 to 31 edges away from the vertex asked for.
        DynamicShortPaths x = new DynamicShortPaths(32, 31, 128);
        Check.add(x, 0, 0, -1, OK);
        for (int v = 1; v < 31; v++) {
            Check.source(x, v - 1, NEG_CYCLE);
            Check.source(x, v, OK);
            Check.source(x, 31, OK);
            Check.add(x, v, v - 1, 1000, OK);
        }
        Check.source(x, 30, NEG_CYCLE);
        Check.add(x, 31, 30, 1000, NEG_CYCLE);
        Check.set(x, 0, 0, 0, OK);
        Check.source(x, 30, OK);
        Check.vertex(x, 0, 30000, 30, 1);
    }

    private static void takesTheFirstVertexAndTheLast() {
        Check.sentence("Otherwise the source becomes s and the call answers OK.");
        for (int n = 2; n <= 32; n++) {
            DynamicShortPaths x = new DynamicShortPaths(n, 1, 1);
            for (int s = n - 1; s >= 0; s--) {
                Check.source(x, s, OK);
                Check.same("getSource()", x.getSource(), s);
                Check.vertex(x, s, 0, 0, -1);
                Check.same("reachableCount()", x.reachableCount(), 1);
            }
        }
    }

    private static void theSameSourceChangesNothing() {
        Check.sentence("It also answers OK when s is already the source, and then nothing changes.");
        for (DynamicShortPaths x : Graphs.emptyToFull()) {
            String before = Check.answers(x);
            Check.source(x, x.getSource(), OK);
            Check.same("after the same source", Check.answers(x), before);
        }
    }

    private static void takesEverythingFromTheNewSource() {
        Check.sentence("After a successful change, getSource() is s, and reachability, reachableCount(), distances,"
            + " hops and parents are taken from the new source.");
        DynamicShortPaths x = Graphs.path(32, 1000);
        for (int s = 31; s >= 0; s--) {
            Check.source(x, s, OK);
            Check.same("getSource()", x.getSource(), s);
            Check.same("reachableCount()", x.reachableCount(), 32 - s);
            for (int v = 0; v < 32; v++) {
                if (v < s) {
                    Check.unreachable(x, v);
                } else {
                    Check.vertex(x, v, 1000 * (v - s), v - s, v == s ? -1 : v - 1);
                }
            }
        }
        DynamicShortPaths all = Graphs.complete(11, 1);
        for (int s = 0; s < 11; s++) {
            Check.source(all, s, OK);
            Check.same("reachableCount()", all.reachableCount(), 11);
            for (int v = 0; v < 11; v++) {
                Check.vertex(all, v, v == s ? 0 : 1, v == s ? 0 : 1, v == s ? -1 : s);
            }
        }
    }

    private static void leavesTheEdges() {
        Check.sentence("The edges and their weights do not change.");
        for (DynamicShortPaths x : Graphs.emptyToFull()) {
            String before = x.edgeCount() + " edges\n" + Check.edges(x);
            for (int s = -1; s <= x.vertexCount(); s++) {
                x.setSource(s);
                Check.same("after setSource(" + s + ")", x.edgeCount() + " edges\n" + Check.edges(x), before);
            }
        }
    }

    private static void keepsOutOfReachWhatWasOutOfReach() {
        Check.sentence("A negative cycle that was not reachable from the old source but is reachable from s makes the"
            + " call answer NEG_CYCLE, and a refused call changes nothing.");
        DynamicShortPaths x = Graphs.mixed(Graphs.MIXED_EDGES);
        Check.source(x, 1, NEG_CYCLE);
        Check.source(x, 3, NEG_CYCLE);
        Check.same("getSource()", x.getSource(), 2);
        Check.set(x, 3, 1, -2, OK);
        Check.source(x, 3, OK);
        Check.vertex(x, 1, -2, 1, 3);
        Check.set(x, 3, 1, -3, NEG_CYCLE);
        Check.source(x, 2, OK);
        Check.set(x, 3, 1, -3, OK);
        Check.source(x, 3, NEG_CYCLE);
    }
}
