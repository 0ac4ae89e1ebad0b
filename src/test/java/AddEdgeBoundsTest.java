/** The boundary cases of promise 2, sentence by sentence. */
final class AddEdgeBoundsTest {
    private static final int OK = DynamicShortPaths.OK;
    private static final int BAD_VERTEX = DynamicShortPaths.BAD_VERTEX;
    private static final int BAD_WEIGHT = DynamicShortPaths.BAD_WEIGHT;
    private static final int EXISTS = DynamicShortPaths.EXISTS;
    private static final int FULL = DynamicShortPaths.FULL;
    private static final int NEG_CYCLE = DynamicShortPaths.NEG_CYCLE;

    private AddEdgeBoundsTest() {
    }

    public static void main(String[] args) {
        refusesVerticesThatAreNotValid();
        refusesWeightsOutsideTheRange();
        refusesAPresentEdge();
        refusesWhenFull();
        refusesAnInconsistentGraph();
        badVertexComesFirst();
        badWeightComesSecond();
        existsComesThird();
        fullComesFourth();
        addsTheFirstEdgeAndTheLast();
        everythingMayChange();
        leavesTheOtherEdges();
        takesTheLeastAndTheGreatestWeight();
        takesANegativeLoopOnlyOutOfReach();
        keepsAnUnreachableCycleOutOfReach();
        changesNoPathFromAnUnreachableTail();
        aRefusedCallChangesNothing();
        Check.end();
    }

    private static void refusesVerticesThatAreNotValid() {
        Check.sentence("1. u or v is not valid: answers BAD_VERTEX.");
        for (DynamicShortPaths x : Graphs.emptyToFull()) {
            Check.withBadPairs(x, (u, v) -> Check.add(x, u, v, 1, BAD_VERTEX));
        }
    }

    private static void refusesWeightsOutsideTheRange() {
        Check.sentence("2. w < MIN_WEIGHT or w > MAX_WEIGHT: answers BAD_WEIGHT.");
        for (DynamicShortPaths x : Graphs.emptyToFull()) {
            int last = x.vertexCount() - 1;
            for (int bad : Check.badWeights()) {
                Check.add(x, 0, last, bad, BAD_WEIGHT);
                Check.add(x, last, last, bad, BAD_WEIGHT);
            }
        }
    }

    private static void refusesAPresentEdge() {
        Check.sentence("3. The edge (u,v) is present: answers EXISTS (whatever its current weight, even if equal"
            + " to w).");
        int[] weights = {-1000, -1, 0, 1, 1000};
        for (int held : weights) {
            DynamicShortPaths x = new DynamicShortPaths(3, 0, 9);
            Check.add(x, 0, 2, held, OK);
            Check.add(x, 1, 1, held, OK);
            for (int w : weights) {
                Check.add(x, 0, 2, w, EXISTS);
                Check.add(x, 1, 1, w, EXISTS);
            }
            Check.edge(x, 0, 2, held);
            // Only the same direction is present.
            Check.add(x, 2, 0, 1000, OK);
        }
    }

    private static void refusesWhenFull() {
        Check.sentence("4. edgeCount() == maxEdges: answers FULL.");
        int[] mosts = {1, 2, 127, 128};
        for (int most : mosts) {
            DynamicShortPaths x = Graphs.full(32, most, 1);
            Check.add(x, 31, 0, 1, FULL);
            Check.add(x, 31, 31, 1, FULL);
            Check.remove(x, 0, 0, OK);
            Check.add(x, 31, 0, 1, OK);
            Check.add(x, 31, 31, 1, FULL);
        }
        // A graph that can't take another edge isn't full while maxEdges is not reached.
        DynamicShortPaths x = new DynamicShortPaths(2, 0, 5);
        for (int i = 0; i < 4; i++) {
            Check.add(x, i / 2, i % 2, 0, OK);
        }
        Check.add(x, 1, 1, 0, EXISTS);
    }

    private static void refusesAnInconsistentGraph() {
        Check.sentence("5. The graph with this edge added is not consistent: answers NEG_CYCLE.");
        DynamicShortPaths x = Graphs.path(32, 1000);
        Check.add(x, 1, 0, -1000, OK);
        Check.add(x, 2, 1, -1000, OK);
        Check.add(x, 3, 1, -1000, OK);
        Check.add(x, 2, 0, -1000, OK);
        Check.add(x, 0, 2, 999, NEG_CYCLE);
        Check.add(x, 0, 2, 1000, NEG_CYCLE);
        Check.remove(x, 2, 1, OK);
        Check.add(x, 0, 2, 999, NEG_CYCLE);
        Check.add(x, 0, 2, 1000, OK);
    }

    private static void badVertexComesFirst() {
        Check.sentence("The refusal conditions, in order: 1. u or v is not valid: answers BAD_VERTEX.");
        DynamicShortPaths x = Graphs.mixed(Graphs.MIXED_EDGES);
        for (int bad : Check.badWeights()) {
            Check.withBadPairs(x, (u, v) -> Check.add(x, u, v, bad, BAD_VERTEX));
        }
        // The graph is full, too.
        Check.withBadPairs(x, (u, v) -> Check.add(x, u, v, -1, BAD_VERTEX));
    }

    private static void badWeightComesSecond() {
        Check.sentence("The refusal conditions, in order: .. 2. w < MIN_WEIGHT or w > MAX_WEIGHT: answers BAD_WEIGHT.");
        DynamicShortPaths full = Graphs.mixed(Graphs.MIXED_EDGES);
        DynamicShortPaths open = Graphs.mixed(128);
        for (int bad : Check.badWeights()) {
            // Before EXISTS and FULL, each alone and both.
            Check.add(open, 2, 0, bad, BAD_WEIGHT);
            Check.add(full, 4, 4, bad, BAD_WEIGHT);
            Check.add(full, 2, 0, bad, BAD_WEIGHT);
            // Before NEG_CYCLE: a loop at the source, an edge to a negative cycle.
            Check.add(open, 2, 2, bad, BAD_WEIGHT);
            Check.add(open, 2, 1, bad, BAD_WEIGHT);
        }
    }

    private static void existsComesThird() {
        Check.sentence("The refusal conditions, in order: .. 3. The edge (u,v) is present: answers EXISTS");
        DynamicShortPaths full = Graphs.mixed(Graphs.MIXED_EDGES);
        DynamicShortPaths open = Graphs.mixed(128);
        // Before FULL, before NEG_CYCLE, and before both.
        Check.add(full, 2, 0, 1, EXISTS);
        Check.add(open, 5, 5, -1, EXISTS);
        Check.add(full, 5, 5, -1, EXISTS);
        DynamicShortPaths all = Graphs.complete(2, 0);
        for (int i = 0; i < 4; i++) {
            Check.add(all, i / 2, i % 2, -1000, EXISTS);
        }
    }

    private static void fullComesFourth() {
        Check.sentence("The refusal conditions, in order: .. 4. edgeCount() == maxEdges: answers FULL.");
        DynamicShortPaths full = Graphs.mixed(Graphs.MIXED_EDGES);
        Check.add(full, 2, 2, -1, FULL);
        Check.add(full, 2, 1, 1000, FULL);
        Check.add(full, 5, 2, -1000, FULL);
        Check.remove(full, 0, 5, OK);
        Check.add(full, 2, 2, -1, NEG_CYCLE);
        Check.add(full, 2, 1, 1000, NEG_CYCLE);
        Check.add(full, 5, 2, -1000, NEG_CYCLE);
    }

    private static void addsTheFirstEdgeAndTheLast() {
        Check.sentence("Otherwise the edge is added and the call answers OK. Then hasEdge(u,v) is true,"
            + " getWeight(u,v) is w, and edgeCount() grows by one.");
        for (int n = 2; n <= 32; n++) {
            DynamicShortPaths x = new DynamicShortPaths(n, 0, n);
            for (int v = n - 1; v >= 0; v--) {
                Check.add(x, v, n - 1, n - 1 - v, OK);
                Check.edge(x, v, n - 1, n - 1 - v);
                Check.same("edgeCount()", x.edgeCount(), n - v);
            }
            Check.add(x, 0, 0, 1, FULL);
        }
    }

    private static void everythingMayChange() {
        Check.sentence("Distances, hops, parents, reachability and reachableCount() become those of the new graph; any"
            + " of them may change.");
        // The edge to 1 moves all the vertices after it, to the last.
        DynamicShortPaths x = Graphs.path(32, 1);
        Check.remove(x, 0, 1, OK);
        Check.same("reachableCount()", x.reachableCount(), 1);
        Check.add(x, 0, 1, 1000, OK);
        Check.same("reachableCount()", x.reachableCount(), 32);
        Check.vertex(x, 31, 1030, 31, 30);
        Check.add(x, 0, 2, 1000, OK);
        Check.vertex(x, 2, 1000, 1, 0);
        Check.vertex(x, 31, 1029, 30, 30);
        // No less distance, but fewer edges.
        Check.add(x, 1, 31, 29, OK);
        Check.vertex(x, 31, 1029, 2, 1);
        // Neither less nor fewer, but a lesser parent.
        DynamicShortPaths y = new DynamicShortPaths(5, 4, 4);
        Check.add(y, 4, 2, 1, OK);
        Check.add(y, 2, 3, 1, OK);
        Check.add(y, 4, 0, 5, OK);
        Check.vertex(y, 3, 2, 2, 2);
        Check.add(y, 0, 3, -3, OK);
        Check.vertex(y, 3, 2, 2, 0);
    }

    private static void leavesTheOtherEdges() {
        Check.sentence("The source and all other edges and weights do not change.");
        for (int i = 0; i < 36; i++) {
            DynamicShortPaths x = Graphs.mixed(Graphs.MIXED_EDGES + 1);
            String before = Check.allBut(x, i / 6, i % 6);
            x.addEdge(i / 6, i % 6, 1000);
            Check.same("after addEdge(" + i / 6 + ", " + i % 6 + ", 1000)", Check.allBut(x, i / 6, i % 6), before);
        }
    }

    private static void takesTheLeastAndTheGreatestWeight() {
        Check.sentence("Edge cases: MIN_WEIGHT and MAX_WEIGHT themselves are allowed.");
        DynamicShortPaths x = new DynamicShortPaths(3, 0, 9);
        Check.add(x, 0, 1, DynamicShortPaths.MIN_WEIGHT, OK);
        Check.add(x, 1, 0, DynamicShortPaths.MAX_WEIGHT, OK);
        Check.add(x, 2, 2, DynamicShortPaths.MIN_WEIGHT, OK);
        Check.add(x, 0, 0, DynamicShortPaths.MAX_WEIGHT, OK);
        Check.edge(x, 0, 1, -1000);
        Check.edge(x, 1, 0, 1000);
        Check.edge(x, 2, 2, -1000);
        Check.edge(x, 0, 0, 1000);
        Check.vertex(x, 1, -1000, 1, 0);
    }

    private static void takesANegativeLoopOnlyOutOfReach() {
        Check.sentence("A loop (u,u) is allowed; when conditions 1 to 4 do not apply, a loop of negative weight is"
            + " refused with NEG_CYCLE when u is reachable and accepted when u is not reachable.");
        for (int n = 2; n <= 32; n += 6) {
            DynamicShortPaths x = new DynamicShortPaths(n, 0, 128);
            Check.add(x, 0, 0, -1, NEG_CYCLE);
            Check.add(x, 0, 0, -1000, NEG_CYCLE);
            Check.add(x, 0, 0, 0, OK);
            Check.add(x, n - 1, n - 1, -1000, OK);
            Check.edge(x, n - 1, n - 1, -1000);
            Check.unreachable(x, n - 1);
            // When a condition before it applies, that one answers.
            Check.add(x, n - 1, n - 1, -1, EXISTS);
            Check.add(x, n, n, -1, BAD_VERTEX);
            Check.remove(x, n - 1, n - 1, OK);
            Check.add(x, 0, n - 1, 1000, OK);
            Check.add(x, n - 1, n - 1, -1, NEG_CYCLE);
            Check.add(x, n - 1, n - 1, 1000, OK);
            Check.vertex(x, n - 1, 1000, 1, 0);
        }
        DynamicShortPaths full = Graphs.full(32, 128, 1);
        Check.add(full, 31, 31, -1, FULL);
    }

    private static void keepsAnUnreachableCycleOutOfReach() {
        Check.sentence("When conditions 1 to 4 do not apply, an edge that makes a formerly unreachable negative cycle"
            + " reachable is refused with NEG_CYCLE.");
        for (int length = 1; length <= 31; length++) {
            DynamicShortPaths x = new DynamicShortPaths(32, 0, length + 1);
            for (int i = 1; i <= length; i++) {
                Check.add(x, i, i % length + 1, i == 1 ? -length : 1, OK);
            }
            for (int v = 1; v <= length; v++) {
                Check.add(x, 0, v, 1000, NEG_CYCLE);
                Check.add(x, 0, v, -1000, NEG_CYCLE);
            }
            // One more in the sum, and it is no negative cycle.
            Check.set(x, 1, 1 % length + 1, 1 - length, OK);
            Check.add(x, 0, length, 1000, OK);
            Check.vertex(x, length, 1000, 1, 0);
            Check.add(x, 0, 0, -1, FULL);
        }
    }

    private static void changesNoPathFromAnUnreachableTail() {
        Check.sentence("An edge whose tail u is not reachable changes no distance, hops, parent or reachability.");
        // Both signs: NO_DIST plus a weight would wrap around, less a weight would not.
        int[] weights = {-1000, -1, 0, 1, 1000};
        int[] tails = {1, 3, 4};
        for (int w : weights) {
            for (int u : tails) {
                DynamicShortPaths x = Graphs.mixed(128);
                String before = Check.tree(x);
                for (int v = 0; v < 6; v++) {
                    x.addEdge(u, v, w);
                    Check.edge(x, u, v, x.getWeight(u, v));
                    Check.same("after addEdge(" + u + ", " + v + ", " + w + ")", Check.tree(x), before);
                }
            }
        }
    }

    private static void aRefusedCallChangesNothing() {
        Check.sentence("A refused call changes nothing.");
        DynamicShortPaths open = Graphs.mixed(Graphs.MIXED_EDGES + 1);
        DynamicShortPaths full = Graphs.mixed(Graphs.MIXED_EDGES);
        String before = Check.answers(open);
        Check.same("addEdge(6, 0, 1)", open.addEdge(6, 0, 1), BAD_VERTEX);
        Check.same("addEdge(0, -1, 1)", open.addEdge(0, -1, 1), BAD_VERTEX);
        Check.same("addEdge(4, 4, 1001)", open.addEdge(4, 4, 1001), BAD_WEIGHT);
        Check.same("addEdge(4, 4, -1001)", open.addEdge(4, 4, -1001), BAD_WEIGHT);
        Check.same("addEdge(2, 0, 7)", open.addEdge(2, 0, 7), EXISTS);
        Check.same("addEdge(4, 4, 1)", full.addEdge(4, 4, 1), FULL);
        Check.same("addEdge(2, 1, -1000)", open.addEdge(2, 1, -1000), NEG_CYCLE);
        Check.same("addEdge(5, 2, -4)", open.addEdge(5, 2, -4), NEG_CYCLE);
        Check.same("after all of them", Check.answers(open), before);
        Check.same("after FULL", Check.answers(full), before);
        // The place that was free is still free.
        Check.add(open, 5, 2, -3, OK);
        Check.vertex(open, 2, 0, 0, -1);
    }
}
