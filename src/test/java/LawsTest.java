/** The list at the end of the section 'Terms': it holds after every call, accepted or refused. */
final class LawsTest {
    private LawsTest() {
    }

    public static void main(String[] args) {
        holdAtTheStart();
        holdWhileAGraphFillsAndEmpties();
        holdAfterEveryKindOfCall();
        holdOnTheLongestPaths();
        Check.end();
    }

    // Each law names its own sentence; all of them stand under "After every call, .. all of these hold:".
    private static void holdAtTheStart() {
        for (int n = 1; n <= 33; n++) {
            Laws.hold(new DynamicShortPaths(n, 0, 1));
            Laws.hold(new DynamicShortPaths(n, n, 128));
        }
    }

    private static void holdWhileAGraphFillsAndEmpties() {
        int[] sizes = {2, 3, 11, 12, 32};
        for (int n : sizes) {
            int most = Math.min(128, n * n);
            DynamicShortPaths x = new DynamicShortPaths(n, n / 2, most);
            for (int i = 0; i < most; i++) {
                x.addEdge(i * 7 % n, (i * 7 + i / n) % n, i * 37 % 101 - 20);
                Laws.hold(x);
            }
            x.addEdge(n - 1, n - 1, 1);
            Laws.hold(x);
            for (int u = 0; u < n; u++) {
                for (int v = 0; v < n; v++) {
                    x.removeEdge(u, v);
                }
                Laws.hold(x);
            }
        }
    }

    private static void holdAfterEveryKindOfCall() {
        for (DynamicShortPaths x : Graphs.emptyToFull()) {
            int n = x.vertexCount();
            for (int v = -1; v <= n; v++) {
                for (int w = -1001; w <= 1001; w += 286) {
                    x.canSet(v, n - 1 - v, w);
                    Laws.hold(x);
                    x.addEdge(v, n - 1 - v, w);
                    Laws.hold(x);
                    x.setWeight(n - 1, v, w);
                    Laws.hold(x);
                }
                x.setSource(v);
                Laws.hold(x);
                x.removeEdge(v, n - 1);
                Laws.hold(x);
            }
            for (int v = -1; v <= n; v++) {
                x.isolate(v);
                Laws.hold(x);
            }
        }
    }

    private static void holdOnTheLongestPaths() {
        int[] weights = {-1000, -1, 0, 1, 1000};
        for (int w : weights) {
            DynamicShortPaths x = Graphs.path(32, w);
            Laws.hold(x);
            x.addEdge(31, 0, -31 * w);
            x.addEdge(31, 31, 0);
            x.addEdge(0, 31, w);
            Laws.hold(x);
            for (int s = 31; s >= 0; s--) {
                x.setSource(s);
                Laws.hold(x);
            }
        }
    }
}
