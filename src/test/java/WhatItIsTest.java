/** The section 'What it is' with the public constants, sentence by sentence. */
final class WhatItIsTest {
    private static final int OK = DynamicShortPaths.OK;
    private static final int BAD_VERTEX = DynamicShortPaths.BAD_VERTEX;
    private static final int BAD_WEIGHT = DynamicShortPaths.BAD_WEIGHT;
    private static final int EXISTS = DynamicShortPaths.EXISTS;
    private static final int MISSING = DynamicShortPaths.MISSING;
    private static final int FULL = DynamicShortPaths.FULL;
    private static final int NEG_CYCLE = DynamicShortPaths.NEG_CYCLE;
    private static final int MIN_WEIGHT = DynamicShortPaths.MIN_WEIGHT;
    private static final int MAX_WEIGHT = DynamicShortPaths.MAX_WEIGHT;
    private static final int MAX_VERTICES = DynamicShortPaths.MAX_VERTICES;
    private static final int MAX_EDGES = DynamicShortPaths.MAX_EDGES;

    private WhatItIsTest() {
    }

    public static void main(String[] args) {
        verticesGoUpToMaxVertices();
        weightsMayBeNegative();
        edgesGoUpToMaxEdges();
        answersAreExactAfterEveryChange();
        aChangeToANegativeCycleIsRefused();
        canSetTellsInAdvance();
        noOtherHistoryShows();
        eachAnswerCodeHasItsCase();
        noDistAndNoEdgeStandForNothing();
        Check.end();
    }

    private static void verticesGoUpToMaxVertices() {
        Check.sentence("Vertices are 0..n-1, with n from 2 to MAX_VERTICES.");
        Check.same("vertexCount()", new DynamicShortPaths(1, 0, 1).vertexCount(), 2);
        DynamicShortPaths x = new DynamicShortPaths(MAX_VERTICES + 1, 0, 1);
        Check.same("vertexCount()", x.vertexCount(), 32);
        Check.source(x, MAX_VERTICES, BAD_VERTEX);
        Check.source(x, MAX_VERTICES - 1, OK);
    }

    private static void weightsMayBeNegative() {
        Check.sentence("Edge weights are ints from MIN_WEIGHT to MAX_WEIGHT and may be negative.");
        DynamicShortPaths x = new DynamicShortPaths(3, 0, 4);
        Check.add(x, 0, 1, MIN_WEIGHT - 1, BAD_WEIGHT);
        Check.add(x, 0, 1, MIN_WEIGHT, OK);
        Check.add(x, 1, 2, MAX_WEIGHT + 1, BAD_WEIGHT);
        Check.add(x, 1, 2, MAX_WEIGHT, OK);
        Check.vertex(x, 1, -1000, 1, 0);
        Check.vertex(x, 2, 0, 2, 1);
    }

    private static void edgesGoUpToMaxEdges() {
        Check.sentence("At most maxEdges edges (never more than MAX_EDGES) are present at once.");
        int[] mosts = {MAX_EDGES, MAX_EDGES + 1, 1024, Integer.MAX_VALUE};
        for (int most : mosts) {
            DynamicShortPaths x = new DynamicShortPaths(MAX_VERTICES, 0, most);
            for (int i = 0; i < MAX_EDGES; i++) {
                Check.same("addEdge", x.addEdge(i % 32, i * 5 % 31, 1), OK);
            }
            Check.add(x, 0, 31, 1, FULL);
            Check.same("edgeCount()", x.edgeCount(), 128);
        }
    }

    private static void answersAreExactAfterEveryChange() {
        Check.sentence("After every change the object answers the exact least path weight to every reachable vertex,"
            + " the fewest edges among the cheapest paths, and a canonical shortest-path tree");
        DynamicShortPaths x = new DynamicShortPaths(5, 0, 14);
        for (int i = 0; i < 4000; i++) {
            changeSomehow(x, i);
            Check.same("after change " + i, Check.tree(x), new AllPaths(x).tree());
        }
    }

    /** "an insertion, a deletion, a weight change, removal of all edges at a vertex, or a change of source" */
    private static void changeSomehow(DynamicShortPaths x, int i) {
        int u = i * 3 / 7 % 5;
        int v = i * 11 / 5 % 5;
        int w = i * 13 / 3 % 6 - 2;
        switch (i % 8) {
            case 0, 1, 2, 3 -> x.addEdge(u, v, w);
            case 4, 5 -> x.setWeight(u, v, w);
            case 6 -> x.removeEdge(u, v);
            default -> {
                x.setSource(v);
                if (i % 64 == 63) {
                    x.isolate(u);
                }
            }
        }
    }

    private static void aChangeToANegativeCycleIsRefused() {
        Check.sentence("Any change that would leave a negative cycle reachable from the source is refused and leaves"
            + " everything as it was, so the distances always stay well defined.");
        DynamicShortPaths x = Graphs.path(4, 2);
        Check.add(x, 3, 1, -5, NEG_CYCLE);
        Check.add(x, 3, 1, -4, OK);
        Check.set(x, 2, 3, 1, NEG_CYCLE);
        Check.remove(x, 0, 1, OK);
        Check.set(x, 2, 3, 1, OK);
        Check.source(x, 2, NEG_CYCLE);
        Check.add(x, 0, 3, 1000, NEG_CYCLE);
        Check.vertex(x, 0, 0, 0, -1);
        Check.unreachable(x, 3);
    }

    private static void canSetTellsInAdvance() {
        Check.sentence("canSet tells in advance whether a change would be accepted.");
        DynamicShortPaths x = new DynamicShortPaths(3, 0, 5);
        for (int i = 0; i < 3000; i++) {
            int u = i * 5 % 4;
            int v = i / 3 % 4;
            int w = i * 7 % 5 - 3;
            boolean can = x.canSet(u, v, w);
            int answer = x.hasEdge(u, v) ? x.setWeight(u, v, w) : x.addEdge(u, v, w);
            Check.same("canSet(" + u + ", " + v + ", " + w + ")", can, answer == OK);
            x.setSource(i / 7 % 3);
            if (i % 9 == 0) {
                x.removeEdge(v, u);
            }
        }
    }

    private static void noOtherHistoryShows() {
        Check.sentence("All answers depend only on n, maxEdges, the present edges with their weights, and the source;"
            + " no other history shows.");
        int most = 9;
        DynamicShortPaths x = new DynamicShortPaths(4, 3, most);
        for (int i = 0; i < 600; i++) {
            changeSomehow(x, i);
            if (i % 10 == 0) {
                // The twin knows the same graph, but not the calls that led to it.
                answersEveryCallAlike(x, Graphs.twin(x, most), i);
            }
        }
    }

    private static void answersEveryCallAlike(DynamicShortPaths x, DynamicShortPaths twin, int at) {
        Check.same("a twin", Check.answers(twin), Check.answers(x));
        for (int i = at; i < at + 25; i++) {
            int u = i % 5;
            int v = i / 5 % 5;
            int w = i % 4 - 1;
            Check.same("canSet", twin.canSet(u, v, w), x.canSet(u, v, w));
            Check.same("addEdge", twin.addEdge(u, v, w), x.addEdge(u, v, w));
            Check.same("setWeight", twin.setWeight(v, u, w), x.setWeight(v, u, w));
            Check.same("setSource", twin.setSource(u), x.setSource(u));
            Check.same("removeEdge", twin.removeEdge(u, u), x.removeEdge(u, u));
        }
        Check.same("isolate", twin.isolate(at % 4), x.isolate(at % 4));
        Check.same("the twin at last", Check.answers(twin), Check.answers(x));
    }

    private static void eachAnswerCodeHasItsCase() {
        Check.sentence("Answer codes: OK = 0, BAD_VERTEX = 1, BAD_WEIGHT = 2, EXISTS = 3, MISSING = 4, FULL = 5,"
            + " NEG_CYCLE = 6.");
        DynamicShortPaths x = new DynamicShortPaths(2, 0, 2);
        Check.add(x, 0, 1, 5, 0);
        Check.add(x, 0, 2, 5, 1);
        Check.add(x, 1, 0, 1001, 2);
        Check.add(x, 0, 1, 5, 3);
        Check.remove(x, 1, 0, 4);
        Check.add(x, 1, 0, -6, 6);
        Check.add(x, 1, 0, -5, 0);
        Check.add(x, 1, 1, 0, 5);
    }

    private static void noDistAndNoEdgeStandForNothing() {
        Check.sentence("NO_DIST = 2147483647: the distance answer for a vertex that is not valid or not reachable.");
        DynamicShortPaths x = new DynamicShortPaths(3, 0, 2);
        Check.add(x, 1, 0, 7, OK);
        Check.same("getDist(1)", x.getDist(1), 2147483647);
        Check.same("getDist(3)", x.getDist(3), 2147483647);
        Check.same("getDist(-1)", x.getDist(-1), 2147483647);
        Check.sentence("NO_EDGE = 2147483647: the weight answer when u or v is not valid or the edge (u,v) is not"
            + " present.");
        Check.same("getWeight(1, 0)", x.getWeight(1, 0), 7);
        Check.same("getWeight(0, 1)", x.getWeight(0, 1), 2147483647);
        Check.same("getWeight(1, 3)", x.getWeight(1, 3), 2147483647);
        Check.same("getWeight(-1, 0)", x.getWeight(-1, 0), 2147483647);
        Check.set(x, 0, 1, 7, MISSING);
        Check.add(x, 1, 0, 7, EXISTS);
    }
}
