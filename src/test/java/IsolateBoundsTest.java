/** The boundary cases of promise 5, sentence by sentence. */
final class IsolateBoundsTest {
    private static final int OK = DynamicShortPaths.OK;

    private IsolateBoundsTest() {
    }

    public static void main(String[] args) {
        refusesVerticesThatAreNotValid();
        removesEdgesOutAndEdgesIn();
        countsALoopOnce();
        answersZeroWithoutEdges();
        shrinksTheCountByTheAnswer();
        leavesAnotherVertexUnreachable();
        leavesTheSourceAlone();
        leavesTheOtherEdges();
        isNeverRefusedOnAValidVertex();
        Check.end();
    }

    private static void refusesVerticesThatAreNotValid() {
        Check.sentence("`int isolate(int v)`: if v is not valid, answers -1 and changes nothing.");
        for (DynamicShortPaths x : Graphs.emptyToFull()) {
            for (int bad : Check.invalidVertices(x)) {
                Check.isolate(x, bad, -1);
            }
        }
    }

    private static void removesEdgesOutAndEdgesIn() {
        Check.sentence("Otherwise every present edge (x,y) with x == v or y == v is removed, and the call answers the"
            + " number of edges removed.");
        for (int v = 0; v < 32; v++) {
            // All 63 edges that can touch v, between the least vertex and the greatest.
            DynamicShortPaths x = new DynamicShortPaths(32, 0, 63);
            for (int other = 0; other < 32; other++) {
                x.addEdge(v, other, 1);
                x.addEdge(other, v, 1);
            }
            Check.same("edgeCount()", x.edgeCount(), 63);
            Check.isolate(x, v, 63);
            Check.same("edgeCount()", x.edgeCount(), 0);
            Check.same("the edges", Check.edges(x), "");
        }
        DynamicShortPaths out = new DynamicShortPaths(3, 0, 9);
        Check.add(out, 1, 0, 1, OK);
        Check.add(out, 1, 2, 1, OK);
        Check.isolate(out, 1, 2);
        DynamicShortPaths in = new DynamicShortPaths(3, 0, 9);
        Check.add(in, 0, 1, 1, OK);
        Check.add(in, 2, 1, 1, OK);
        Check.isolate(in, 1, 2);
    }

    private static void countsALoopOnce() {
        Check.sentence("A loop (v,v) counts once");
        for (int v = 0; v < 32; v++) {
            DynamicShortPaths x = new DynamicShortPaths(32, 31, 1);
            Check.add(x, v, v, 0, OK);
            Check.isolate(x, v, 1);
            Check.same("edgeCount()", x.edgeCount(), 0);
            Check.noEdge(x, v, v);
            // The one place is free again, and it is one.
            Check.add(x, v, v, 0, OK);
            Check.add(x, v, (v + 1) % 32, 0, DynamicShortPaths.FULL);
        }
    }

    private static void answersZeroWithoutEdges() {
        Check.sentence("and the answer is 0 when there are no such edges; in that case nothing changes.");
        for (int n = 2; n <= 32; n++) {
            DynamicShortPaths empty = new DynamicShortPaths(n, n - 1, 1);
            Check.isolate(empty, 0, 0);
            Check.isolate(empty, n - 1, 0);
        }
        Check.isolate(Graphs.mixed(Graphs.MIXED_EDGES), 4, 0);
        // Full, and no edge at the last vertex but those of others.
        DynamicShortPaths x = new DynamicShortPaths(12, 11, 121);
        for (int i = 0; i < 121; i++) {
            x.addEdge(i / 11, i % 11, 1);
        }
        Check.same("edgeCount()", x.edgeCount(), 121);
        Check.isolate(x, 11, 0);
        Check.isolate(x, 0, 21);
        Check.isolate(x, 0, 0);
    }

    private static void shrinksTheCountByTheAnswer() {
        Check.sentence("After a call on a valid v, no edge into or out of v is present, edgeCount() shrinks by the"
            + " answer, and distances, hops, parents, reachability and reachableCount() become those of the new"
            + " graph.");
        DynamicShortPaths x = Graphs.complete(11, 1);
        int left = 121;
        for (int v = 0; v < 11; v++) {
            int touching = 2 * (11 - v) - 1;
            Check.isolate(x, v, touching);
            left -= touching;
            Check.same("edgeCount()", x.edgeCount(), left);
            for (int other = 0; other < 11; other++) {
                Check.noEdge(x, v, other);
                Check.noEdge(x, other, v);
            }
            Check.same("reachableCount()", x.reachableCount(), Math.max(1, 10 - v));
            Check.same("a twin", Check.answers(x), Check.answers(Graphs.twin(x, 128)));
        }
        // The way round is longer in weight and in edges.
        DynamicShortPaths y = Graphs.path(32, 1);
        Check.add(y, 0, 31, 0, OK);
        Check.add(y, 1, 3, 1000, OK);
        Check.isolate(y, 2, 2);
        Check.vertex(y, 3, 1001, 2, 1);
        Check.vertex(y, 30, 1028, 29, 29);
        Check.vertex(y, 31, 0, 1, 0);
    }

    private static void leavesAnotherVertexUnreachable() {
        Check.sentence("If v is not the source, v is then not reachable.");
        for (int v = 1; v < 32; v++) {
            DynamicShortPaths x = Graphs.path(32, 1);
            Check.isolate(x, v, v == 31 ? 1 : 2);
            for (int after = v; after < 32; after++) {
                Check.unreachable(x, after);
            }
            Check.same("reachableCount()", x.reachableCount(), v);
        }
    }

    private static void leavesTheSourceAlone() {
        Check.sentence("If v is the source, it stays the source and stays reachable, and it becomes the only reachable"
            + " vertex.");
        for (DynamicShortPaths x : Graphs.emptyToFull()) {
            int s = x.getSource();
            x.isolate(s);
            Check.same("getSource()", x.getSource(), s);
            Check.vertex(x, s, 0, 0, -1);
            Check.same("reachableCount()", x.reachableCount(), 1);
            for (int v = 0; v < x.vertexCount(); v++) {
                if (v != s) {
                    Check.unreachable(x, v);
                }
            }
        }
    }

    private static void leavesTheOtherEdges() {
        Check.sentence("The source and all edges not touching v, with their weights, do not change.");
        for (DynamicShortPaths x : Graphs.emptyToFull()) {
            int n = x.vertexCount();
            for (int v = n - 1; v >= 0; v--) {
                String before = untouching(x, v);
                x.isolate(v);
                Check.same("after isolate(" + v + ")", untouching(x, v), before);
                Check.same("the edges left", "source " + x.getSource() + "\n" + Check.edges(x), before);
            }
        }
    }

    private static String untouching(DynamicShortPaths x, int v) {
        StringBuilder text = new StringBuilder("source " + x.getSource() + "\n");
        for (int a = 0; a < x.vertexCount(); a++) {
            for (int b = 0; b < x.vertexCount(); b++) {
                if (a != v && b != v && x.hasEdge(a, b)) {
                    text.append(Check.edgeLine(a, b, true, x.getWeight(a, b)));
                }
            }
        }
        return text.toString();
    }

    private static void isNeverRefusedOnAValidVertex() {
        Check.sentence("Removal never makes the graph inconsistent, so isolate on a valid vertex is never refused.");
        int[] due = {3, 2, 2, 3, 0, 4};
        for (int v = 0; v < 6; v++) {
            // A negative cycle out of reach, cycles of weight zero in reach, and no room.
            DynamicShortPaths x = Graphs.mixed(Graphs.MIXED_EDGES);
            Check.isolate(x, v, due[v]);
            Laws.hold(x);
        }
        DynamicShortPaths y = new DynamicShortPaths(3, 0, 9);
        Check.add(y, 1, 1, -1000, OK);
        Check.add(y, 2, 1, -1000, OK);
        Check.add(y, 1, 2, -1000, OK);
        Check.isolate(y, 2, 2);
        Check.isolate(y, 1, 1);
    }
}
