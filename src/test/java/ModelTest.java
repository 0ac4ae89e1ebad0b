/** All promises: long runs of mixed calls, every answer of every getter compared with the model's. */
final class ModelTest {
    private static final int[] ODD_VERTICES = {
        Integer.MIN_VALUE, -33, -1, 32, 33, Integer.MAX_VALUE
    };
    private static final int[] ODD_WEIGHTS = {
        Integer.MIN_VALUE, -1001, -1000, 1000, 1001, Integer.MAX_VALUE
    };

    // A fixed sequence, so that every run of the test makes the same calls.
    private long state;
    private final DynamicShortPaths x;
    private final Model model;
    private final int[] height;
    private final int spread;
    private final int slack;

    private ModelTest(long seed, int n, int maxEdges, int spread, int slack) {
        this.state = seed * 0x9E3779B97F4A7C15L + 12345;
        int source = next(n);
        this.x = new DynamicShortPaths(n, source, maxEdges);
        this.model = new Model(n, source, maxEdges);
        this.spread = spread;
        this.slack = slack;
        this.height = new int[n];
        for (int v = 0; v < n; v++) {
            height[v] = next(spread + 1);
        }
    }

    public static void main(String[] args) {
        for (int seed = 0; seed < 40; seed++) {
            new ModelTest(seed, 2 + seed % 3, 1 + seed % 10, 2, 2).run(400);
            new ModelTest(seed + 100, 4 + seed % 4, 8 + seed, 3, 1).run(400);
            new ModelTest(seed + 200, 5 + seed % 6, 128, 500, 400).run(200);
        }
        for (int seed = 0; seed < 4; seed++) {
            new ModelTest(seed + 300, 32, 128, 5, 2).run(400);
            new ModelTest(seed + 400, 31, 100, 500, 500).run(400);
            new ModelTest(seed + 500, 20, 60, 0, 3).run(400);
        }
        smallGraphsWhole();
        Check.end();
    }

    private void run(int calls) {
        Check.same("a new object", Check.answers(x), model.answers());
        for (int i = 0; i < calls; i++) {
            String call = step();
            Check.same("after " + call, Check.answers(x), model.answers());
        }
    }

    private String step() {
        int u = vertex();
        int v = vertex();
        int w = weight(u, v);
        String pair = "(" + u + ", " + v + ", " + w + ")";
        Check.same("canSet" + pair, x.canSet(u, v, w), model.canSet(u, v, w));
        int kind = next(40);
        if (kind < 20) {
            Check.same("addEdge" + pair, x.addEdge(u, v, w), model.addEdge(u, v, w));
            return "addEdge" + pair;
        }
        if (kind < 28) {
            int to = presentFrom(u, v);
            int set = weight(u, to);
            String call = "setWeight(" + u + ", " + to + ", " + set + ")";
            Check.same(call, x.setWeight(u, to, set), model.setWeight(u, to, set));
            return call;
        }
        if (kind < 35) {
            int to = presentFrom(u, v);
            String call = "removeEdge(" + u + ", " + to + ")";
            Check.same(call, x.removeEdge(u, to), model.removeEdge(u, to));
            return call;
        }
        if (kind < 36) {
            Check.same("isolate(" + v + ")", x.isolate(v), model.isolate(v));
            return "isolate(" + v + ")";
        }
        Check.same("setSource(" + v + ")", x.setSource(v), model.setSource(v));
        return "setSource(" + v + ")";
    }

    private int next(int bound) {
        state = state * 6364136223846793005L + 1442695040888963407L;
        return (int) ((state >>> 33) % bound);
    }

    private int vertex() {
        if (next(30) == 0) {
            return next(2) == 0 ? model.n : ODD_VERTICES[next(ODD_VERTICES.length)];
        }
        return next(model.n);
    }

    // Weights that follow heights close many cycles of weight zero, and few below it.
    private int weight(int u, int v) {
        if (next(30) == 0) {
            return ODD_WEIGHTS[next(ODD_WEIGHTS.length)];
        }
        boolean inside = u >= 0 && u < model.n && v >= 0 && v < model.n;
        if (!inside || next(8) == 0) {
            return next(2 * spread + 3) - spread - 1;
        }
        return height[v] - height[u] + next(slack + 1);
    }

    private int presentFrom(int u, int otherwise) {
        int start = next(model.n);
        for (int i = 0; i < model.n; i++) {
            int v = (start + i) % model.n;
            if (model.hasEdge(u, v) && next(10) != 0) {
                return v;
            }
        }
        return otherwise;
    }

    /** Every graph on two vertices with few weights, reached from the one before it, from both sources. */
    private static void smallGraphsWhole() {
        int[] weights = {Integer.MAX_VALUE, -1, 0, 1, 2};
        DynamicShortPaths x = new DynamicShortPaths(2, 0, 4);
        Model model = new Model(2, 0, 4);
        for (int code = 0; code < 625; code++) {
            int rest = code;
            for (int pair = 0; pair < 4; pair++) {
                bring(x, model, pair / 2, pair % 2, weights[rest % 5]);
                rest /= 5;
            }
            Check.same("setSource(1)", x.setSource(1), model.setSource(1));
            Check.same("graph " + code + " from 1", Check.answers(x), model.answers());
            Check.same("setSource(0)", x.setSource(0), model.setSource(0));
            Check.same("graph " + code + " from 0", Check.answers(x), model.answers());
        }
    }

    private static void bring(DynamicShortPaths x, Model model, int u, int v, int w) {
        if (w == Integer.MAX_VALUE) {
            Check.same("removeEdge", x.removeEdge(u, v), model.removeEdge(u, v));
        } else if (model.hasEdge(u, v)) {
            Check.same("setWeight", x.setWeight(u, v, w), model.setWeight(u, v, w));
        } else {
            Check.same("addEdge", x.addEdge(u, v, w), model.addEdge(u, v, w));
        }
    }
}
