/** The boundary cases of promise 3, sentence by sentence. */
final class SetWeightBoundsTest {
    private static final int OK = DynamicShortPaths.OK;
    private static final int BAD_VERTEX = DynamicShortPaths.BAD_VERTEX;
    private static final int BAD_WEIGHT = DynamicShortPaths.BAD_WEIGHT;
    private static final int MISSING = DynamicShortPaths.MISSING;
    private static final int NEG_CYCLE = DynamicShortPaths.NEG_CYCLE;

    private SetWeightBoundsTest() {
    }

    public static void main(String[] args) {
        refusesVerticesThatAreNotValid();
        refusesWeightsOutsideTheRange();
        refusesAnAbsentEdge();
        refusesAnInconsistentGraph();
        badVertexComesFirst();
        badWeightComesSecond();
        missingComesThird();
        setsTheLeastAndTheGreatestWeight();
        anEqualWeightChangesNothing();
        leavesAllButTheWeight();
        distancesMoveInEitherDirection();
        aFullGraphStopsNoChange();
        aRefusedCallChangesNothing();
        Check.end();
    }

    private static void refusesVerticesThatAreNotValid() {
        Check.sentence("1. u or v is not valid: answers BAD_VERTEX.");
        for (DynamicShortPaths x : Graphs.emptyToFull()) {
            Check.withBadPairs(x, (u, v) -> Check.set(x, u, v, 1, BAD_VERTEX));
        }
    }

    private static void refusesWeightsOutsideTheRange() {
        Check.sentence("2. w < MIN_WEIGHT or w > MAX_WEIGHT: answers BAD_WEIGHT.");
        for (int bad : Check.badWeights()) {
            DynamicShortPaths x = Graphs.mixed(128);
            for (int i = 0; i < 36; i++) {
                Check.set(x, i / 6, i % 6, bad, BAD_WEIGHT);
            }
        }
    }

    private static void refusesAnAbsentEdge() {
        Check.sentence("3. The edge (u,v) is absent: answers MISSING.");
        DynamicShortPaths empty = new DynamicShortPaths(2, 0, 1);
        for (int i = 0; i < 4; i++) {
            Check.set(empty, i / 2, i % 2, 0, MISSING);
        }
        DynamicShortPaths x = Graphs.mixed(Graphs.MIXED_EDGES);
        Check.set(x, 0, 2, 0, MISSING);
        Check.set(x, 2, 2, 0, MISSING);
        Check.set(x, 4, 4, 0, MISSING);
        Check.remove(x, 2, 0, OK);
        Check.set(x, 2, 0, -5, MISSING);
    }

    private static void refusesAnInconsistentGraph() {
        Check.sentence("4. The graph with weight(u,v) = w is not consistent: answers NEG_CYCLE.");
        for (int length = 1; length <= 32; length++) {
            DynamicShortPaths x = Graphs.path(32, 0);
            Check.add(x, length - 1, 0, 0, OK);
            for (int v = 1; v < length; v++) {
                Check.set(x, v - 1, v, -1, NEG_CYCLE);
            }
            Check.set(x, length - 1, 0, -1, NEG_CYCLE);
            Check.set(x, length - 1, 0, 1, OK);
            Check.set(x, length - 1, 0, 0, OK);
        }
        // The same change is no cycle where no path leads.
        DynamicShortPaths x = Graphs.mixed(128);
        Check.set(x, 0, 0, -1, NEG_CYCLE);
        Check.set(x, 1, 3, -1000, OK);
        Check.source(x, 4, OK);
        Check.set(x, 0, 0, -1, OK);
        Check.source(x, 2, NEG_CYCLE);
    }

    private static void badVertexComesFirst() {
        Check.sentence("The refusal conditions, in order: 1. u or v is not valid: answers BAD_VERTEX.");
        DynamicShortPaths x = Graphs.mixed(Graphs.MIXED_EDGES);
        for (int bad : Check.badWeights()) {
            Check.withBadPairs(x, (u, v) -> Check.set(x, u, v, bad, BAD_VERTEX));
        }
    }

    private static void badWeightComesSecond() {
        Check.sentence("The refusal conditions, in order: .. 2. w < MIN_WEIGHT or w > MAX_WEIGHT: answers BAD_WEIGHT.");
        DynamicShortPaths x = Graphs.mixed(Graphs.MIXED_EDGES);
        for (int bad : Check.badWeights()) {
            // Before MISSING, before NEG_CYCLE, and before both.
            Check.set(x, 4, 4, bad, BAD_WEIGHT);
            Check.set(x, 0, 0, bad, BAD_WEIGHT);
            Check.set(x, 2, 2, bad, BAD_WEIGHT);
        }
    }

    private static void missingComesThird() {
        Check.sentence("The refusal conditions, in order: .. 3. The edge (u,v) is absent: answers MISSING.");
        DynamicShortPaths x = Graphs.mixed(Graphs.MIXED_EDGES);
        Check.set(x, 2, 2, -1, MISSING);
        Check.set(x, 5, 2, -1000, MISSING);
        Check.set(x, 2, 1, 1000, MISSING);
    }

    private static void setsTheLeastAndTheGreatestWeight() {
        Check.sentence("Otherwise weight(u,v) becomes w and the call answers OK.");
        DynamicShortPaths x = Graphs.path(32, 0);
        for (int v = 1; v < 32; v++) {
            Check.set(x, v - 1, v, -1000, OK);
            Check.edge(x, v - 1, v, -1000);
            Check.vertex(x, 31, -1000 * v, 31, 30);
        }
        for (int v = 31; v >= 1; v--) {
            Check.set(x, v - 1, v, 1000, OK);
            Check.edge(x, v - 1, v, 1000);
        }
        Check.vertex(x, 31, 31000, 31, 30);
    }

    private static void anEqualWeightChangesNothing() {
        Check.sentence("If w equals the old weight, the call answers OK and nothing changes.");
        for (DynamicShortPaths x : Graphs.emptyToFull()) {
            String before = Check.answers(x);
            int n = x.vertexCount();
            for (int i = 0; i < n * n; i++) {
                if (x.hasEdge(i / n, i % n)) {
                    Check.set(x, i / n, i % n, x.getWeight(i / n, i % n), OK);
                }
            }
            Check.same("after equal weights", Check.answers(x), before);
        }
        int[] ends = {-1000, 1000};
        for (int w : ends) {
            DynamicShortPaths x = Graphs.path(32, w);
            String before = Check.answers(x);
            Check.set(x, 0, 1, w, OK);
            Check.set(x, 30, 31, w, OK);
            Check.same("after equal weights", Check.answers(x), before);
        }
    }

    private static void leavesAllButTheWeight() {
        Check.sentence("edgeCount(), the set of present edges, reachability, reachableCount(), the source and all other"
            + " weights do not change");
        int[] weights = {-1000, -5, -1, 0, 1, 8, 1000};
        for (int w : weights) {
            for (int i = 0; i < 36; i++) {
                DynamicShortPaths x = Graphs.mixed(128);
                String before = Check.allBut(x, i / 6, i % 6) + reach(x);
                if (x.setWeight(i / 6, i % 6, w) == OK) {
                    Check.edge(x, i / 6, i % 6, w);
                }
                String call = "setWeight(" + i / 6 + ", " + i % 6 + ", " + w + ")";
                Check.same("after " + call, Check.allBut(x, i / 6, i % 6) + reach(x), before);
            }
        }
    }

    private static String reach(DynamicShortPaths x) {
        StringBuilder text = new StringBuilder(x.edgeCount() + " edges, " + x.reachableCount() + " reachable:");
        for (int v = 0; v < x.vertexCount(); v++) {
            text.append(x.isReachable(v) ? " " + v : "");
        }
        return text.append('\n').toString();
    }

    private static void distancesMoveInEitherDirection() {
        Check.sentence("distances, hops and parents become those of the new graph and may change in either direction.");
        DynamicShortPaths x = Graphs.path(32, 1);
        Check.add(x, 0, 31, 32, OK);
        Check.vertex(x, 31, 31, 31, 30);
        Check.set(x, 0, 31, 31, OK);
        Check.vertex(x, 31, 31, 1, 0);
        Check.set(x, 0, 31, -1000, OK);
        Check.vertex(x, 31, -1000, 1, 0);
        Check.set(x, 0, 1, -1000, OK);
        Check.vertex(x, 31, -1000, 1, 0);
        Check.set(x, 0, 31, -969, OK);
        Check.vertex(x, 31, -970, 31, 30);
        Check.set(x, 0, 1, -999, OK);
        Check.vertex(x, 31, -969, 1, 0);
        Check.set(x, 0, 31, 1000, OK);
        Check.vertex(x, 31, -969, 31, 30);
        Check.set(x, 0, 1, 1000, OK);
        Check.vertex(x, 31, 1000, 1, 0);
    }

    private static void aFullGraphStopsNoChange() {
        Check.sentence("A full graph (edgeCount() == maxEdges) does not stop a weight change.");
        int[] mosts = {1, 2, 127, 128};
        for (int most : mosts) {
            DynamicShortPaths x = Graphs.full(32, most, 1);
            for (int i = 0; i < most; i++) {
                Check.set(x, i / 32, i % 32, 2 + i, OK);
                Check.edge(x, i / 32, i % 32, 2 + i);
            }
            Check.same("edgeCount()", x.edgeCount(), most);
        }
        DynamicShortPaths all = Graphs.complete(11, 1);
        Check.set(all, 10, 0, 0, OK);
        Check.vertex(all, 0, 0, 1, 10);
        // Nor does it let one pass that is refused otherwise.
        Check.set(all, 0, 10, -1, NEG_CYCLE);
        Check.set(all, 10, 11, 1, BAD_VERTEX);
    }

    private static void aRefusedCallChangesNothing() {
        Check.sentence("A refused call changes nothing.");
        DynamicShortPaths x = Graphs.mixed(128);
        String before = Check.answers(x);
        Check.same("setWeight(6, 0, 1)", x.setWeight(6, 0, 1), BAD_VERTEX);
        Check.same("setWeight(0, -1, 1)", x.setWeight(0, -1, 1), BAD_VERTEX);
        Check.same("setWeight(2, 0, 1001)", x.setWeight(2, 0, 1001), BAD_WEIGHT);
        Check.same("setWeight(2, 0, -1001)", x.setWeight(2, 0, -1001), BAD_WEIGHT);
        Check.same("setWeight(2, 4, 1)", x.setWeight(2, 4, 1), MISSING);
        Check.same("setWeight(0, 0, -1)", x.setWeight(0, 0, -1), NEG_CYCLE);
        Check.same("setWeight(5, 5, -1000)", x.setWeight(5, 5, -1000), NEG_CYCLE);
        Check.same("after all of them", Check.answers(x), before);
    }
}
