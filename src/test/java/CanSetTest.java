/** Promise 7: canSet. */
final class CanSetTest {
    private static final int OK = DynamicShortPaths.OK;

    private CanSetTest() {
    }

    public static void main(String[] args) {
        tellsOfInsertions();
        tellsOfWeights();
        tellsOfAFullGraph();
        tellsOfBadArguments();
        Check.end();
    }

    private static void tellsOfInsertions() {
        DynamicShortPaths x = new DynamicShortPaths(5, 0, 10);
        Check.can(x, 0, 1, -1000, true);
        Check.can(x, 0, 1, 1000, true);
        Check.can(x, 0, 0, -1, false);
        Check.can(x, 0, 0, 0, true);
        Check.can(x, 1, 1, -1, true);
        Check.add(x, 0, 1, 2, OK);
        Check.can(x, 1, 0, -2, true);
        Check.can(x, 1, 0, -3, false);
        Check.can(x, 1, 1, -1, false);
        Check.add(x, 3, 4, -1, OK);
        Check.add(x, 4, 3, 0, OK);
        Check.can(x, 1, 3, 1000, false);
        Check.can(x, 3, 1, -1000, true);
        Check.can(x, 1, 2, 0, true);
        Check.noEdge(x, 1, 2);
    }

    private static void tellsOfWeights() {
        DynamicShortPaths x = new DynamicShortPaths(4, 0, 10);
        Check.add(x, 0, 1, 4, OK);
        Check.add(x, 1, 0, -4, OK);
        Check.add(x, 2, 2, -1, OK);
        Check.can(x, 0, 1, 4, true);
        Check.can(x, 1, 0, -4, true);
        Check.can(x, 2, 2, -1, true);
        Check.can(x, 2, 2, -1000, true);
        Check.can(x, 0, 1, 3, false);
        Check.can(x, 0, 1, 5, true);
        Check.can(x, 1, 0, -5, false);
        Check.can(x, 1, 0, -3, true);
        Check.edge(x, 0, 1, 4);
        Check.edge(x, 1, 0, -4);
    }

    private static void tellsOfAFullGraph() {
        DynamicShortPaths x = new DynamicShortPaths(3, 0, 2);
        Check.add(x, 0, 1, 1, OK);
        Check.can(x, 1, 0, 1, true);
        Check.add(x, 1, 0, 1, OK);
        Check.can(x, 0, 2, 1, false);
        Check.can(x, 2, 2, 1, false);
        Check.can(x, 0, 1, 1, true);
        Check.can(x, 0, 1, -1, true);
        Check.can(x, 0, 1, -2, false);
        Check.remove(x, 1, 0, OK);
        Check.can(x, 0, 2, 1, true);
    }

    private static void tellsOfBadArguments() {
        DynamicShortPaths x = new DynamicShortPaths(4, 0, 10);
        Check.add(x, 0, 1, 3, OK);
        for (int bad : Check.invalidVertices(x)) {
            Check.can(x, bad, 1, 1, false);
            Check.can(x, 0, bad, 1, false);
            Check.can(x, bad, bad, 1, false);
        }
        int[] weights = {-1001, 1001, Integer.MIN_VALUE, Integer.MAX_VALUE};
        for (int bad : weights) {
            Check.can(x, 0, 1, bad, false);
            Check.can(x, 0, 2, bad, false);
            Check.can(x, 3, 3, bad, false);
        }
    }
}
