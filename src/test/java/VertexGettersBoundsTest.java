/** The boundary cases of promises 8 to 11 (getDist, isReachable, getHops, getParent), sentence by sentence. */
final class VertexGettersBoundsTest {
    private static final int OK = DynamicShortPaths.OK;

    private VertexGettersBoundsTest() {
    }

    public static void main(String[] args) {
        getDistOfNoVertexIsNoDist();
        getDistOfTheSourceIsZero();
        getDistLiesBetweenBothEnds();
        isReachableIsFalseOtherwise();
        isReachableIsTrueForTheSource();
        getHopsIsMinusOneOtherwise();
        getHopsIsTheLeastOfTheCheapest();
        getHopsIsZeroOnlyForTheSource();
        getParentOfTheSourceIsMinusOne();
        getParentIsMinusOneOtherwise();
        getParentIsTheLeast();
        getParentIsNeverTheVertexItself();
        noneChangesAnything();
        Check.end();
    }

    private static void getDistOfNoVertexIsNoDist() {
        Check.sentence("`int getDist(int v)` answers dist(v) when v is valid and reachable, and NO_DIST otherwise (any"
            + " int that is not valid, negative or too large, gives NO_DIST).");
        for (DynamicShortPaths x : Graphs.emptyToFull()) {
            for (int bad : Check.invalidVertices(x)) {
                Check.same("getDist(" + bad + ")", x.getDist(bad), DynamicShortPaths.NO_DIST);
            }
        }
        DynamicShortPaths x = Graphs.mixed(128);
        Check.same("getDist(0)", x.getDist(0), -5);
        Check.same("getDist(5)", x.getDist(5), 3);
        Check.same("getDist(1)", x.getDist(1), 2147483647);
        Check.same("getDist(4)", x.getDist(4), 2147483647);
        // A distance may be any of the numbers that stand for something elsewhere.
        int[] plain = {-1, 0, 1};
        for (int w : plain) {
            Check.same("getDist(1)", Graphs.path(2, w).getDist(1), w);
        }
    }

    private static void getDistOfTheSourceIsZero() {
        Check.sentence("For the source it answers 0.");
        for (DynamicShortPaths x : Graphs.emptyToFull()) {
            for (int s = 0; s < x.vertexCount(); s++) {
                x.setSource(s);
                Check.same("getDist of the source", x.getDist(x.getSource()), 0);
            }
        }
    }

    private static void getDistLiesBetweenBothEnds() {
        Check.sentence("A reachable vertex's answer lies in [-31000, 31000].");
        DynamicShortPaths low = Graphs.path(32, -1000);
        DynamicShortPaths high = Graphs.path(32, 1000);
        Check.same("getDist(31)", low.getDist(31), -31000);
        Check.same("getDist(31)", high.getDist(31), 31000);
        // With every other place taken the ends are the same.
        for (int gap = 2; gap < 6; gap++) {
            for (int u = 0; u + gap < 32; u++) {
                low.addEdge(u, u + gap, -1000);
                high.addEdge(u + gap, u, 1000);
            }
        }
        for (int v = 0; v < 32; v++) {
            Check.same("getDist(" + v + ")", low.getDist(v), -1000 * v);
            Check.same("getDist(" + v + ")", high.getDist(v), 1000 * v);
        }
        Check.same("edgeCount()", low.edgeCount(), 128);
        Check.same("edgeCount()", high.edgeCount(), 128);
    }

    private static void isReachableIsFalseOtherwise() {
        Check.sentence("`boolean isReachable(int v)` answers true when v is valid and reachable, and false otherwise.");
        for (DynamicShortPaths x : Graphs.emptyToFull()) {
            for (int bad : Check.invalidVertices(x)) {
                Check.same("isReachable(" + bad + ")", x.isReachable(bad), false);
            }
        }
        DynamicShortPaths x = Graphs.mixed(128);
        boolean[] due = {true, false, true, false, false, true};
        for (int v = 0; v < 6; v++) {
            Check.same("isReachable(" + v + ")", x.isReachable(v), due[v]);
        }
        DynamicShortPaths far = Graphs.path(32, 0);
        Check.same("isReachable(31)", far.isReachable(31), true);
        Check.same("isReachable(32)", far.isReachable(32), false);
    }

    private static void isReachableIsTrueForTheSource() {
        Check.sentence("It is always true for the source.");
        for (DynamicShortPaths x : Graphs.emptyToFull()) {
            for (int s = 0; s < x.vertexCount(); s++) {
                x.setSource(s);
                x.isolate(x.getSource());
                Check.same("isReachable of the source", x.isReachable(x.getSource()), true);
            }
        }
    }

    private static void getHopsIsMinusOneOtherwise() {
        Check.sentence("`int getHops(int v)` answers hops(v) when v is valid and reachable, and -1 otherwise.");
        for (DynamicShortPaths x : Graphs.emptyToFull()) {
            for (int bad : Check.invalidVertices(x)) {
                Check.same("getHops(" + bad + ")", x.getHops(bad), -1);
            }
        }
        DynamicShortPaths x = Graphs.mixed(128);
        int[] due = {1, -1, 0, -1, -1, 1};
        for (int v = 0; v < 6; v++) {
            Check.same("getHops(" + v + ")", x.getHops(v), due[v]);
        }
        int[] weights = {-1000, 0, 1000};
        for (int w : weights) {
            DynamicShortPaths longest = Graphs.path(32, w);
            for (int v = 0; v < 32; v++) {
                Check.same("getHops(" + v + ")", longest.getHops(v), v);
            }
        }
    }

    private static void getHopsIsTheLeastOfTheCheapest() {
        Check.sentence("`int getHops(int v)` answers hops(v) when v is valid and reachable");
        // 31 edges, then 2, then 1, all of weight 0 together; and 1 edge that weighs more is none of them.
        DynamicShortPaths x = Graphs.path(32, 0);
        Check.add(x, 0, 31, 1, OK);
        Check.same("getHops(31)", x.getHops(31), 31);
        Check.add(x, 0, 30, 0, OK);
        Check.same("getHops(31)", x.getHops(31), 2);
        Check.set(x, 0, 31, 0, OK);
        Check.same("getHops(31)", x.getHops(31), 1);
        Check.set(x, 0, 30, -1, OK);
        Check.same("getHops(31)", x.getHops(31), 2);
        Check.set(x, 29, 30, -2, OK);
        Check.same("getHops(31)", x.getHops(31), 31);
    }

    private static void getHopsIsZeroOnlyForTheSource() {
        Check.sentence("For the source it answers 0; for any other reachable vertex it answers at least 1.");
        // All the distances are 0 here, so nothing but the edges counts.
        DynamicShortPaths x = Graphs.complete(11, 0);
        for (int s = 0; s < 11; s++) {
            Check.source(x, s, OK);
            for (int v = 0; v < 11; v++) {
                Check.same("getHops(" + v + ")", x.getHops(v), v == s ? 0 : 1);
            }
        }
    }

    private static void getParentOfTheSourceIsMinusOne() {
        Check.sentence("`int getParent(int v)` answers parent(v) when v is valid and reachable, which is -1 for"
            + " v == s.");
        // Ways back into the source, as cheap as they can be, make no parent of it.
        DynamicShortPaths x = Graphs.complete(11, 0);
        for (int s = 0; s < 11; s++) {
            Check.source(x, s, OK);
            Check.same("getParent(" + s + ")", x.getParent(s), -1);
        }
        DynamicShortPaths ring = Graphs.path(32, 1);
        Check.add(ring, 31, 0, -31, OK);
        for (int s = 0; s < 32; s++) {
            Check.source(ring, s, OK);
            Check.same("getParent(" + s + ")", ring.getParent(s), -1);
            Check.same("getParent of the next", ring.getParent((s + 1) % 32), s);
        }
    }

    private static void getParentIsMinusOneOtherwise() {
        Check.sentence("Answers -1 when v is not valid or not reachable.");
        for (DynamicShortPaths x : Graphs.emptyToFull()) {
            for (int bad : Check.invalidVertices(x)) {
                Check.same("getParent(" + bad + ")", x.getParent(bad), -1);
            }
        }
        DynamicShortPaths x = Graphs.mixed(128);
        int[] due = {2, -1, -1, -1, -1, 2};
        for (int v = 0; v < 6; v++) {
            Check.same("getParent(" + v + ")", x.getParent(v), due[v]);
        }
    }

    private static void getParentIsTheLeast() {
        Check.sentence("For a reachable v other than the source, the answer is the least vertex u with (u,v) present, u"
            + " reachable, dist(u) + weight(u,v) == dist(v) and hops(u) + 1 == hops(v).");
        // 1 to 30 all lead from 31 to 0; taking the least away leaves the next.
        DynamicShortPaths x = new DynamicShortPaths(32, 31, 128);
        for (int u = 30; u >= 1; u--) {
            Check.add(x, 31, u, 500 + u, OK);
            Check.add(x, u, 0, -u, OK);
            Check.vertex(x, 0, 500, 2, u);
        }
        // As the least vertex it would be the parent, were it one edge nearer, or one less or more in weight.
        Check.add(x, 2, 1, -1, OK);
        Check.set(x, 31, 1, 502, OK);
        Check.vertex(x, 1, 501, 2, 2);
        Check.vertex(x, 0, 500, 2, 2);
        Check.remove(x, 2, 1, OK);
        Check.vertex(x, 0, 500, 2, 2);
        Check.set(x, 31, 1, 501, OK);
        Check.vertex(x, 0, 500, 2, 1);
        // A vertex that is not reachable is none, whatever its edge weighs.
        for (int u = 1; u < 30; u++) {
            Check.remove(x, 31, u, OK);
            Check.vertex(x, 0, 500, 2, u + 1);
        }
        Check.remove(x, 31, 30, OK);
        Check.unreachable(x, 0);
    }

    private static void getParentIsNeverTheVertexItself() {
        Check.sentence("The answer is never v itself, since hops(v) would have to equal hops(v) + 1.");
        DynamicShortPaths x = Graphs.path(32, 0);
        for (int v = 0; v < 32; v++) {
            Check.add(x, v, v, 0, OK);
            Check.same("getParent(" + v + ")", x.getParent(v), v - 1);
        }
        // Here the loop's vertex is less than the vertex that is its parent.
        DynamicShortPaths y = new DynamicShortPaths(2, 1, 2);
        Check.add(y, 0, 0, 0, OK);
        Check.add(y, 1, 0, 0, OK);
        Check.same("getParent(0)", y.getParent(0), 1);
    }

    private static void noneChangesAnything() {
        Check.sentence("This call changes nothing.");
        for (DynamicShortPaths x : Graphs.emptyToFull()) {
            String before = Check.answers(x);
            for (int bad : Check.invalidVertices(x)) {
                x.getDist(bad);
                x.isReachable(bad);
                x.getHops(bad);
                x.getParent(bad);
            }
            Check.same("after the getters", Check.answers(x), before);
            Check.same("a twin", Check.answers(Graphs.twin(x, 128)), before);
        }
    }
}
