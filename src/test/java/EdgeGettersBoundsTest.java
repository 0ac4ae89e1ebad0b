/** The boundary cases of promises 12 to 17 (edges, counts, source, vertices), sentence by sentence. */
final class EdgeGettersBoundsTest {
    private static final int OK = DynamicShortPaths.OK;

    private EdgeGettersBoundsTest() {
    }

    public static void main(String[] args) {
        getWeightIsNoEdgeOtherwise();
        getWeightHasADirection();
        hasEdgeIsFalseOtherwise();
        edgeCountRunsFromZeroToMaxEdges();
        edgeCountTakesALoopForOne();
        reachableCountRunsFromOneToN();
        getSourceIsAlwaysValid();
        vertexCountRunsFromTwoToThirtyTwo();
        vertexCountNeverChanges();
        noneChangesAnything();
        Check.end();
    }

    private static void getWeightIsNoEdgeOtherwise() {
        Check.sentence("`int getWeight(int u, int v)` answers weight(u,v) when u and v are valid and (u,v) is present,"
            + " and NO_EDGE otherwise.");
        for (DynamicShortPaths x : Graphs.emptyToFull()) {
            for (int bad : Check.invalidVertices(x)) {
                for (int v = 0; v < x.vertexCount(); v++) {
                    Check.same("getWeight(" + bad + ", " + v + ")", x.getWeight(bad, v), DynamicShortPaths.NO_EDGE);
                    Check.same("getWeight(" + v + ", " + bad + ")", x.getWeight(v, bad), DynamicShortPaths.NO_EDGE);
                }
                Check.same("getWeight(" + bad + ", " + bad + ")", x.getWeight(bad, bad), DynamicShortPaths.NO_EDGE);
            }
        }
        int[] weights = {-1000, -1, 0, 1, 1000};
        for (int w : weights) {
            DynamicShortPaths x = new DynamicShortPaths(32, 0, 128);
            Check.add(x, 31, 31, w, OK);
            Check.add(x, 0, 31, w, w < 0 ? DynamicShortPaths.NEG_CYCLE : OK);
            Check.same("getWeight(31, 31)", x.getWeight(31, 31), w);
            Check.same("getWeight(31, 30)", x.getWeight(31, 30), 2147483647);
            Check.same("getWeight(0, 0)", x.getWeight(0, 0), 2147483647);
        }
    }

    private static void getWeightHasADirection() {
        Check.sentence("The answer for (u,v) is independent of the answer for (v,u).");
        DynamicShortPaths x = new DynamicShortPaths(32, 0, 128);
        Check.add(x, 31, 0, -1000, OK);
        Check.same("getWeight(31, 0)", x.getWeight(31, 0), -1000);
        Check.same("getWeight(0, 31)", x.getWeight(0, 31), 2147483647);
        Check.add(x, 0, 31, 1000, OK);
        Check.same("getWeight(31, 0)", x.getWeight(31, 0), -1000);
        Check.same("getWeight(0, 31)", x.getWeight(0, 31), 1000);
        Check.set(x, 31, 0, 7, OK);
        Check.same("getWeight(0, 31)", x.getWeight(0, 31), 1000);
        Check.remove(x, 31, 0, OK);
        Check.same("getWeight(31, 0)", x.getWeight(31, 0), 2147483647);
        Check.same("getWeight(0, 31)", x.getWeight(0, 31), 1000);
        // Every pair of a complete graph holds its own weight.
        DynamicShortPaths all = Graphs.complete(11, 0);
        for (int i = 0; i < 121; i++) {
            Check.same("setWeight", all.setWeight(i / 11, i % 11, i), OK);
        }
        for (int i = 0; i < 121; i++) {
            Check.same("getWeight(" + i / 11 + ", " + i % 11 + ")", all.getWeight(i / 11, i % 11), i);
        }
    }

    private static void hasEdgeIsFalseOtherwise() {
        Check.sentence("`boolean hasEdge(int u, int v)` answers true when u and v are valid and (u,v) is present, and"
            + " false otherwise.");
        for (DynamicShortPaths x : Graphs.emptyToFull()) {
            for (int bad : Check.invalidVertices(x)) {
                for (int v = 0; v < x.vertexCount(); v++) {
                    Check.same("hasEdge(" + bad + ", " + v + ")", x.hasEdge(bad, v), false);
                    Check.same("hasEdge(" + v + ", " + bad + ")", x.hasEdge(v, bad), false);
                }
                Check.same("hasEdge(" + bad + ", " + bad + ")", x.hasEdge(bad, bad), false);
            }
        }
        DynamicShortPaths x = new DynamicShortPaths(32, 0, 128);
        for (int i = 0; i < 1024; i++) {
            // One edge at a time, of each weight that could be taken for none.
            Check.same("addEdge", x.addEdge(i / 32, i % 32, i % 3 == 0 ? 0 : 1000), OK);
            Check.same("hasEdge(" + i / 32 + ", " + i % 32 + ")", x.hasEdge(i / 32, i % 32), true);
            Check.same("hasEdge of the next", x.hasEdge((i + 1) % 1024 / 32, (i + 1) % 32), false);
            Check.same("removeEdge", x.removeEdge(i / 32, i % 32), OK);
            Check.same("hasEdge(" + i / 32 + ", " + i % 32 + ")", x.hasEdge(i / 32, i % 32), false);
        }
    }

    private static void edgeCountRunsFromZeroToMaxEdges() {
        Check.sentence("`int edgeCount()` answers the number of present edges, from 0 to maxEdges.");
        int[] mosts = {1, 2, 127, 128};
        for (int most : mosts) {
            DynamicShortPaths x = new DynamicShortPaths(32, 0, most);
            Check.same("edgeCount()", x.edgeCount(), 0);
            for (int i = 0; i < most; i++) {
                Check.same("addEdge", x.addEdge(31 - i / 32, i % 32, 1), OK);
                Check.same("edgeCount()", x.edgeCount(), i + 1);
            }
            Check.add(x, 0, 0, 1, DynamicShortPaths.FULL);
            Check.same("edgeCount()", x.edgeCount(), most);
            for (int v = 31; v >= 0; v--) {
                x.isolate(v);
            }
            Check.same("edgeCount()", x.edgeCount(), 0);
        }
    }

    private static void edgeCountTakesALoopForOne() {
        Check.sentence("A loop counts as one edge.");
        DynamicShortPaths x = new DynamicShortPaths(32, 0, 32);
        for (int v = 0; v < 32; v++) {
            Check.add(x, v, v, 1, OK);
            Check.same("edgeCount()", x.edgeCount(), v + 1);
        }
        Check.add(x, 0, 1, 1, DynamicShortPaths.FULL);
        Check.remove(x, 0, 0, OK);
        Check.same("edgeCount()", x.edgeCount(), 31);
        Check.isolate(x, 31, 1);
        Check.same("edgeCount()", x.edgeCount(), 30);
    }

    private static void reachableCountRunsFromOneToN() {
        Check.sentence("`int reachableCount()` answers the number of reachable vertices, from 1 to n; it equals the"
            + " number of v in [0,n) for which isReachable(v) is true.");
        for (int n = 2; n <= 32; n++) {
            DynamicShortPaths x = new DynamicShortPaths(n, n - 1, 128);
            Check.same("reachableCount()", x.reachableCount(), 1);
            for (int v = n - 2; v >= 0; v--) {
                Check.add(x, v + 1, v, -1000, OK);
                Check.same("reachableCount()", x.reachableCount(), n - v);
            }
            Check.isolate(x, n - 1, 1);
            Check.same("reachableCount()", x.reachableCount(), 1);
        }
        for (DynamicShortPaths x : Graphs.emptyToFull()) {
            for (int s = 0; s < x.vertexCount(); s++) {
                x.setSource(s);
                Check.same("reachableCount()", x.reachableCount(), countReachable(x));
            }
        }
    }

    private static int countReachable(DynamicShortPaths x) {
        int count = 0;
        for (int v = 0; v < x.vertexCount(); v++) {
            count += x.isReachable(v) ? 1 : 0;
        }
        return count;
    }

    private static void getSourceIsAlwaysValid() {
        Check.sentence("`int getSource()` answers the current source s, always a valid vertex.");
        for (int n = 2; n <= 32; n++) {
            DynamicShortPaths x = new DynamicShortPaths(n, Integer.MIN_VALUE, 1);
            Check.same("getSource()", x.getSource(), 0);
            Check.source(x, n - 1, OK);
            Check.same("getSource()", x.getSource(), n - 1);
            for (int bad : Check.invalidVertices(x)) {
                x.setSource(bad);
                Check.same("getSource()", x.getSource(), n - 1);
            }
        }
    }

    private static void vertexCountRunsFromTwoToThirtyTwo() {
        Check.sentence("`int vertexCount()` answers n after clamping, from 2 to 32.");
        for (int n = -2; n <= 40; n++) {
            int due = Math.max(2, Math.min(32, n));
            Check.same("vertexCount()", new DynamicShortPaths(n, 0, 1).vertexCount(), due);
        }
        Check.same("vertexCount()", new DynamicShortPaths(Integer.MIN_VALUE, 0, 1).vertexCount(), 2);
        Check.same("vertexCount()", new DynamicShortPaths(Integer.MAX_VALUE, 0, 1).vertexCount(), 32);
    }

    private static void vertexCountNeverChanges() {
        Check.sentence("It never changes over the life of the object.");
        for (DynamicShortPaths x : Graphs.emptyToFull()) {
            int n = x.vertexCount();
            for (int v = -1; v <= n; v++) {
                x.addEdge(v, v, 1);
                x.setWeight(v, v, 2);
                x.setSource(v);
                x.removeEdge(v, v);
                x.canSet(v, v, 3);
                x.isolate(v);
                Check.same("vertexCount()", x.vertexCount(), n);
            }
        }
    }

    private static void noneChangesAnything() {
        Check.sentence("This call changes nothing.");
        for (DynamicShortPaths x : Graphs.emptyToFull()) {
            String before = Check.answers(x);
            for (int bad : Check.invalidVertices(x)) {
                x.getWeight(bad, 0);
                x.getWeight(0, bad);
                x.hasEdge(bad, 0);
                x.hasEdge(0, bad);
                x.edgeCount();
                x.reachableCount();
                x.getSource();
                x.vertexCount();
            }
            Check.same("after the getters", Check.answers(x), before);
            Check.same("a twin", Check.answers(Graphs.twin(x, 128)), before);
        }
    }
}
