/** Counts and prints the answers of one test that are not the ones due. */
final class Check {
    private static final int[] OUTSIDE = {
        Integer.MIN_VALUE, Integer.MIN_VALUE + 1, -32, -1, 32, 33, 1024, Integer.MAX_VALUE - 1, Integer.MAX_VALUE
    };
    private static int wrong = 0;
    private static int done = 0;

    private Check() {
    }

    static void same(String call, long got, long due) {
        done++;
        if (got != due) {
            wrong++;
            System.out.println(call + " answered " + got + ", due is " + due);
        }
    }

    static void same(String call, boolean got, boolean due) {
        same(call, got ? 1 : 0, due ? 1 : 0);
    }

    static void same(String what, String got, String due) {
        done++;
        if (!got.equals(due)) {
            wrong++;
            System.out.println(what + ": got\n" + got + "due is\n" + due);
        }
    }

    /** Vertex arguments that are not valid for x: the nearest ones on both sides, and far ones. */
    static int[] invalidVertices(DynamicShortPaths x) {
        int[] all = java.util.Arrays.copyOf(OUTSIDE, OUTSIDE.length + 1);
        all[OUTSIDE.length] = x.vertexCount();
        return all;
    }

    /** Every answer of every getter, for valid vertices and for some that are not. */
    static String answers(DynamicShortPaths x) {
        StringBuilder text = new StringBuilder();
        int n = x.vertexCount();
        text.append("n ").append(n).append(" source ").append(x.getSource());
        text.append(" edges ").append(x.edgeCount()).append(" reachable ").append(x.reachableCount()).append('\n');
        for (int v = -1; v <= n; v++) {
            text.append(vertexLine(v, x.isReachable(v), x.getDist(v), x.getHops(v), x.getParent(v)));
        }
        for (int u = -1; u <= n; u++) {
            for (int v = -1; v <= n; v++) {
                if (x.hasEdge(u, v) || x.getWeight(u, v) != DynamicShortPaths.NO_EDGE) {
                    text.append(edgeLine(u, v, x.hasEdge(u, v), x.getWeight(u, v)));
                }
            }
        }
        return text.toString();
    }

    static String vertexLine(int v, boolean reachable, int dist, int hops, int parent) {
        return v + ": " + reachable + " dist " + dist + " hops " + hops + " parent " + parent + "\n";
    }

    static String edgeLine(int u, int v, boolean present, int weight) {
        return u + ">" + v + ": " + present + " weight " + weight + "\n";
    }

    /** The four answers for one vertex. */
    static void vertex(DynamicShortPaths x, int v, int dist, int hops, int parent) {
        same("getDist(" + v + ")", x.getDist(v), dist);
        same("getHops(" + v + ")", x.getHops(v), hops);
        same("getParent(" + v + ")", x.getParent(v), parent);
        same("isReachable(" + v + ")", x.isReachable(v), true);
    }

    static void unreachable(DynamicShortPaths x, int v) {
        same("getDist(" + v + ")", x.getDist(v), 2147483647);
        same("getHops(" + v + ")", x.getHops(v), -1);
        same("getParent(" + v + ")", x.getParent(v), -1);
        same("isReachable(" + v + ")", x.isReachable(v), false);
    }

    static void edge(DynamicShortPaths x, int u, int v, int weight) {
        same("getWeight(" + u + ", " + v + ")", x.getWeight(u, v), weight);
        same("hasEdge(" + u + ", " + v + ")", x.hasEdge(u, v), true);
    }

    static void noEdge(DynamicShortPaths x, int u, int v) {
        same("getWeight(" + u + ", " + v + ")", x.getWeight(u, v), 2147483647);
        same("hasEdge(" + u + ", " + v + ")", x.hasEdge(u, v), false);
    }

    static void add(DynamicShortPaths x, int u, int v, int w, int due) {
        unchangedIfRefused(x, "addEdge(" + u + ", " + v + ", " + w + ")", due, () -> x.addEdge(u, v, w));
    }

    static void set(DynamicShortPaths x, int u, int v, int w, int due) {
        unchangedIfRefused(x, "setWeight(" + u + ", " + v + ", " + w + ")", due, () -> x.setWeight(u, v, w));
    }

    static void remove(DynamicShortPaths x, int u, int v, int due) {
        unchangedIfRefused(x, "removeEdge(" + u + ", " + v + ")", due, () -> x.removeEdge(u, v));
    }

    static void source(DynamicShortPaths x, int s, int due) {
        unchangedIfRefused(x, "setSource(" + s + ")", due, () -> x.setSource(s));
    }

    static void isolate(DynamicShortPaths x, int v, int due) {
        String before = answers(x);
        same("isolate(" + v + ")", x.isolate(v), due);
        if (due <= 0) {
            same("after isolate(" + v + ")", answers(x), before);
        }
    }

    static void can(DynamicShortPaths x, int u, int v, int w, boolean due) {
        String before = answers(x);
        same("canSet(" + u + ", " + v + ", " + w + ")", x.canSet(u, v, w), due);
        same("after canSet(" + u + ", " + v + ", " + w + ")", answers(x), before);
    }

    private static void unchangedIfRefused(
            DynamicShortPaths x, String call, int due, java.util.function.IntSupplier change) {
        String before = answers(x);
        same(call, change.getAsInt(), due);
        if (due != DynamicShortPaths.OK) {
            same("after the refused " + call, answers(x), before);
        }
    }

    static void end() {
        System.out.println(done + " answers, " + wrong + " not as due");
        if (wrong != 0 || done == 0) {
            System.exit(1);
        }
    }
}
