/** The boundary cases of INVARIANT and REFUSALS in the section 'Terms'. */
final class InvariantTest {
    private static final int OK = DynamicShortPaths.OK;
    private static final int BAD_VERTEX = DynamicShortPaths.BAD_VERTEX;
    private static final int BAD_WEIGHT = DynamicShortPaths.BAD_WEIGHT;
    private static final int EXISTS = DynamicShortPaths.EXISTS;
    private static final int MISSING = DynamicShortPaths.MISSING;
    private static final int FULL = DynamicShortPaths.FULL;
    private static final int NEG_CYCLE = DynamicShortPaths.NEG_CYCLE;

    private static final long FAR = Long.MAX_VALUE;

    private InvariantTest() {
    }

    public static void main(String[] args) {
        theStateIsAlwaysConsistent();
        everyWayToACycleIsRefused();
        equalGraphsAnswerEqually();
        refusedCallsLeaveNoTrace();
        objectsAreApart();
        refusalsChangeNothing();
        isolateIsRefusedOnlyWithMinusOne();
        theFirstConditionGivesTheAnswer();
        Check.end();
    }

    private static void theStateIsAlwaysConsistent() {
        Check.sentence("The state is always consistent.");
        // The weights draw towards a cycle below zero again and again, from every source.
        DynamicShortPaths x = new DynamicShortPaths(4, 0, 16);
        for (int i = 0; i < 3000; i++) {
            int u = i * 7 % 4;
            int v = i / 4 * 5 % 4;
            int w = i * 11 % 9 - 5;
            if (x.hasEdge(u, v)) {
                x.setWeight(u, v, w);
            } else {
                x.addEdge(u, v, w);
            }
            x.setSource(i / 3 % 4);
            if (i % 40 == 0) {
                x.isolate(i / 40 % 4);
            }
            Check.same("a negative cycle in reach after step " + i, closesBelowZero(x), false);
        }
    }

    /** Whether some path of 1 to n edges leads from a reachable vertex back to it with a weight below zero. */
    private static boolean closesBelowZero(DynamicShortPaths x) {
        int n = x.vertexCount();
        for (int start = 0; start < n; start++) {
            long[] least = new long[n];
            java.util.Arrays.fill(least, FAR);
            least[start] = 0;
            for (int length = 1; length <= n; length++) {
                least = oneEdgeOn(x, least);
                if (least[start] < 0 && x.isReachable(start)) {
                    return true;
                }
            }
        }
        return false;
    }

    private static long[] oneEdgeOn(DynamicShortPaths x, long[] least) {
        long[] next = new long[least.length];
        java.util.Arrays.fill(next, FAR);
        for (int i = 0; i < next.length * next.length; i++) {
            int u = i / next.length;
            int v = i % next.length;
            if (x.hasEdge(u, v) && least[u] != FAR) {
                next[v] = Math.min(next[v], least[u] + x.getWeight(u, v));
            }
        }
        return next;
    }

    private static void everyWayToACycleIsRefused() {
        Check.sentence("Any call whose change would leave a reachable negative cycle is refused with NEG_CYCLE.");
        DynamicShortPaths x = Graphs.mixed(128);
        Check.add(x, 5, 2, -4, NEG_CYCLE);
        Check.add(x, 4, 4, -1, OK);
        Check.add(x, 5, 4, 1000, NEG_CYCLE);
        Check.add(x, 2, 3, 1000, NEG_CYCLE);
        Check.set(x, 5, 5, -1, NEG_CYCLE);
        Check.source(x, 4, NEG_CYCLE);
        Check.source(x, 3, NEG_CYCLE);
        // Where the source changes first, what was out of reach is no longer.
        Check.source(x, 5, OK);
        Check.add(x, 2, 2, -1, OK);
        Check.source(x, 2, NEG_CYCLE);
        Check.add(x, 5, 2, 1000, NEG_CYCLE);
    }

    private static void equalGraphsAnswerEqually() {
        Check.sentence("Every getter answer is a function of only these things: n, maxEdges, the present edges with"
            + " their weights, and s. No other history shows.");
        for (DynamicShortPaths x : Graphs.emptyToFull()) {
            Check.same("a twin", Check.answers(Graphs.twin(x, 128)), Check.answers(x));
        }
        DynamicShortPaths x = Graphs.mixed(128);
        String plain = Check.answers(x);
        // There and back again: nothing of the way may stay, though the distances have moved meanwhile.
        Check.set(x, 2, 0, -1000, OK);
        Check.add(x, 2, 4, -7, OK);
        Check.add(x, 4, 5, -1000, OK);
        Check.source(x, 0, OK);
        Check.remove(x, 0, 5, OK);
        Check.source(x, 4, OK);
        Check.isolate(x, 4, 2);
        Check.set(x, 2, 0, -5, OK);
        Check.add(x, 0, 5, 8, OK);
        Check.source(x, 2, OK);
        Check.same("after the way round", Check.answers(x), plain);
        // Emptied, it answers as a new one.
        for (int v = 0; v < 6; v++) {
            x.isolate(v);
        }
        Check.same("emptied", Check.answers(x), Check.answers(new DynamicShortPaths(6, 2, 128)));
    }

    private static void refusedCallsLeaveNoTrace() {
        Check.sentence("No other history shows.");
        DynamicShortPaths x = Graphs.mixed(Graphs.MIXED_EDGES + 1);
        for (int i = 0; i < 200; i++) {
            Check.same("addEdge", x.addEdge(2, 2, -1), NEG_CYCLE);
            Check.same("addEdge", x.addEdge(2, 0, 1), EXISTS);
            Check.same("setWeight", x.setWeight(0, 0, -1), NEG_CYCLE);
            Check.same("setSource", x.setSource(1), NEG_CYCLE);
            Check.same("removeEdge", x.removeEdge(4, 4), MISSING);
            Check.same("isolate", x.isolate(6), -1);
            Check.same("canSet", x.canSet(4, 4, -1), true);
        }
        // The one free place is still free, and only that one.
        Check.add(x, 4, 4, -1, OK);
        Check.add(x, 4, 5, 1, FULL);
        Check.same("a twin", Check.answers(Graphs.twin(x, 128)), Check.answers(x));
    }

    private static void objectsAreApart() {
        Check.sentence("No other history shows.");
        DynamicShortPaths x = Graphs.mixed(128);
        String before = Check.answers(x);
        DynamicShortPaths y = Graphs.complete(11, 3);
        Check.same("after another object's calls", Check.answers(x), before);
        y.isolate(0);
        y.setSource(1);
        Check.same("after another object's calls", Check.answers(x), before);
    }

    private static void refusalsChangeNothing() {
        Check.sentence("A refused call changes nothing: after it, every getter answers exactly as before.");
        for (DynamicShortPaths x : Graphs.emptyToFull()) {
            for (int bad : Check.invalidVertices(x)) {
                Check.add(x, bad, 0, 1, BAD_VERTEX);
                Check.set(x, 0, bad, 1, BAD_VERTEX);
                Check.remove(x, bad, bad, BAD_VERTEX);
                Check.source(x, bad, BAD_VERTEX);
                Check.isolate(x, bad, -1);
            }
            for (int bad : Check.badWeights()) {
                Check.add(x, 0, 1, bad, BAD_WEIGHT);
                Check.set(x, 0, 1, bad, BAD_WEIGHT);
            }
            int s = x.getSource();
            if (x.hasEdge(s, s)) {
                Check.add(x, s, s, 1, EXISTS);
                Check.set(x, s, s, -1, NEG_CYCLE);
            } else {
                Check.set(x, s, s, 1, MISSING);
                Check.remove(x, s, s, MISSING);
            }
        }
        DynamicShortPaths x = Graphs.mixed(128);
        Check.add(x, 2, 2, -1, NEG_CYCLE);
        Check.set(x, 0, 0, -1, NEG_CYCLE);
        Check.source(x, 1, NEG_CYCLE);
        DynamicShortPaths y = Graphs.mixed(Graphs.MIXED_EDGES);
        Check.add(y, 4, 4, 1, FULL);
        Check.add(y, 2, 2, -1, FULL);
    }

    private static void isolateIsRefusedOnlyWithMinusOne() {
        Check.sentence("a call of isolate is refused only when it answers -1.");
        // Counts of 1 to 6 look like the answer codes of refusals, and are none.
        for (int count = 0; count <= 31; count++) {
            DynamicShortPaths x = new DynamicShortPaths(32, 0, 128);
            for (int i = 0; i < count; i++) {
                Check.add(x, 31, i, 1, OK);
            }
            Check.isolate(x, 31, count);
            Check.same("edgeCount()", x.edgeCount(), 0);
            Check.same("the edges", Check.edges(x), "");
        }
    }

    private static void theFirstConditionGivesTheAnswer() {
        Check.sentence("The refusal conditions of a call are considered in the order listed, and the first condition"
            + " that applies gives the answer.");
        // Taking the reasons away one by one shows each in its turn.
        DynamicShortPaths x = Graphs.mixed(Graphs.MIXED_EDGES);
        Check.add(x, 6, 2, -1001, BAD_VERTEX);
        Check.add(x, 2, 0, -1001, BAD_WEIGHT);
        Check.add(x, 0, 0, -1, EXISTS);
        Check.add(x, 2, 2, -1, FULL);
        Check.remove(x, 3, 5, OK);
        Check.add(x, 2, 2, -1, NEG_CYCLE);
        Check.add(x, 2, 2, 0, OK);
        Check.set(x, 2, 6, -1001, BAD_VERTEX);
        Check.set(x, 0, 2, -1001, BAD_WEIGHT);
        Check.set(x, 0, 2, -1000, MISSING);
        Check.set(x, 2, 2, -1, NEG_CYCLE);
        Check.set(x, 2, 2, 1, OK);
        Check.remove(x, 6, 2, BAD_VERTEX);
        Check.remove(x, 0, 2, MISSING);
        Check.source(x, 6, BAD_VERTEX);
        Check.source(x, 1, NEG_CYCLE);
    }
}
