/** Counts and prints the answers of one test that are not the ones due. */
final class Check {
    // 256, 65536 and 1 << 27 are 0 again if an index is narrowed, or multiplied by 32, without a look.
    private static final int[] OUTSIDE = {
        Integer.MIN_VALUE, Integer.MIN_VALUE + 1, -(1 << 27), -32, -1,
        32, 33, 256, 1024, 65536, 1 << 27, Integer.MAX_VALUE - 1, Integer.MAX_VALUE
    };
    private static int wrong = 0;
    private static int done = 0;
    private static String sentence = "";

    private Check() {
    }

    /** The sentence of the document that the next answers belong to: printed with each that is wrong. */
    static void sentence(String words) {
        sentence = words;
    }

    static String sentence() {
        return sentence;
    }

    static void same(String call, long got, long due) {
        done++;
        if (got != due) {
            tell(call + " answered " + got + ", due is " + due);
        }
    }

    private static void tell(String what) {
        wrong++;
        System.out.println(what + (sentence.isEmpty() ? "" : "  [" + sentence + "]"));
    }

    static void same(String call, boolean got, boolean due) {
        same(call, got ? 1 : 0, due ? 1 : 0);
    }

    static void same(String what, String got, String due) {
        done++;
        if (!got.equals(due)) {
            tell(what + ":" + linesOnlyIn(got, due, "answered") + linesOnlyIn(due, got, "due is"));
        }
    }

    private static String linesOnlyIn(String text, String other, String label) {
        java.util.List<String> known = other.lines().toList();
        StringBuilder only = new StringBuilder();
        text.lines().filter(line -> !known.contains(line)).forEach(line -> only.append(" <").append(line).append(">"));
        return " " + label + (only.length() == 0 ? " nothing more" : only);
    }

    /** Vertex arguments that are not valid for x: the nearest ones on both sides, and far ones. */
    static int[] invalidVertices(DynamicShortPaths x) {
        int[] all = java.util.Arrays.copyOf(OUTSIDE, OUTSIDE.length + 1);
        all[OUTSIDE.length] = x.vertexCount();
        return all;
    }

    /** Makes the call with each pair of vertices that is not valid in its first place, its second, or both. */
    static void withBadPairs(DynamicShortPaths x, java.util.function.BiConsumer<Integer, Integer> call) {
        int last = x.vertexCount() - 1;
        for (int bad : invalidVertices(x)) {
            call.accept(bad, 0);
            call.accept(bad, last);
            call.accept(0, bad);
            call.accept(last, bad);
            call.accept(bad, bad);
        }
    }

    /** Weights that are not allowed: the nearest ones on both sides, and far ones. */
    static int[] badWeights() {
        return new int[] {
            Integer.MIN_VALUE, Integer.MIN_VALUE + 1, -65536, -1001,
            1001, 65536, Integer.MAX_VALUE - 1, Integer.MAX_VALUE
        };
    }

    /** Every answer of every getter, for valid vertices and for some that are not. */
    static String answers(DynamicShortPaths x) {
        String counts = "n " + x.vertexCount() + " source " + x.getSource() + " edges " + x.edgeCount() + "\n";
        return counts + tree(x) + edges(x);
    }

    /** What follows from the paths: reachability, distances, hops and parents. */
    static String tree(DynamicShortPaths x) {
        StringBuilder text = new StringBuilder("reachable " + x.reachableCount() + "\n");
        for (int v = -1; v <= x.vertexCount(); v++) {
            text.append(vertexLine(v, x.isReachable(v), x.getDist(v), x.getHops(v), x.getParent(v)));
        }
        return text.toString();
    }

    /** The present edges with their weights. */
    static String edges(DynamicShortPaths x) {
        return edgesBut(x, Integer.MIN_VALUE, Integer.MIN_VALUE);
    }

    /** The source and the present edges without (u,v): what a change of that edge must leave as it was. */
    static String allBut(DynamicShortPaths x, int u, int v) {
        return "source " + x.getSource() + "\n" + edgesBut(x, u, v);
    }

    private static String edgesBut(DynamicShortPaths x, int skipU, int skipV) {
        StringBuilder text = new StringBuilder();
        int n = x.vertexCount();
        for (int u = -1; u <= n; u++) {
            for (int v = -1; v <= n; v++) {
                boolean skipped = u == skipU && v == skipV;
                boolean seen = x.hasEdge(u, v) || x.getWeight(u, v) != DynamicShortPaths.NO_EDGE;
                if (seen && !skipped) {
                    text.append(edgeLine(u, v, x.hasEdge(u, v), x.getWeight(u, v)));
                }
            }
        }
        return text.toString();
    }

    static String vertexLine(int v, boolean reachable, int dist, int hops, int parent) {
        return v + ": " + reachable + " dist " + dist + " hops " + hops + " parent " + parent + "\n";
    }

    static String edgeLine(int u, int v, boolean present, int weight) {
        return u + ">" + v + ": " + present + " weight " + weight + "\n";
    }

    /** The four answers for one vertex. */
    static void vertex(DynamicShortPaths x, int v, int dist, int hops, int parent) {
        same("getDist(" + v + ")", x.getDist(v), dist);
        same("getHops(" + v + ")", x.getHops(v), hops);
        same("getParent(" + v + ")", x.getParent(v), parent);
        same("isReachable(" + v + ")", x.isReachable(v), true);
    }

    static void unreachable(DynamicShortPaths x, int v) {
        same("getDist(" + v + ")", x.getDist(v), 2147483647);
        same("getHops(" + v + ")", x.getHops(v), -1);
        same("getParent(" + v + ")", x.getParent(v), -1);
        same("isReachable(" + v + ")", x.isReachable(v), false);
    }

    static void edge(DynamicShortPaths x, int u, int v, int weight) {
        same("getWeight(" + u + ", " + v + ")", x.getWeight(u, v), weight);
        same("hasEdge(" + u + ", " + v + ")", x.hasEdge(u, v), true);
    }

    static void noEdge(DynamicShortPaths x, int u, int v) {
        same("getWeight(" + u + ", " + v + ")", x.getWeight(u, v), 2147483647);
        same("hasEdge(" + u + ", " + v + ")", x.hasEdge(u, v), false);
    }

    static void add(DynamicShortPaths x, int u, int v, int w, int due) {
        unchangedIfRefused(x, "addEdge(" + u + ", " + v + ", " + w + ")", due, () -> x.addEdge(u, v, w));
    }

    static void set(DynamicShortPaths x, int u, int v, int w, int due) {
        unchangedIfRefused(x, "setWeight(" + u + ", " + v + ", " + w + ")", due, () -> x.setWeight(u, v, w));
    }

    static void remove(DynamicShortPaths x, int u, int v, int due) {
        unchangedIfRefused(x, "removeEdge(" + u + ", " + v + ")", due, () -> x.removeEdge(u, v));
    }

    static void source(DynamicShortPaths x, int s, int due) {
        unchangedIfRefused(x, "setSource(" + s + ")", due, () -> x.setSource(s));
    }

    static void isolate(DynamicShortPaths x, int v, int due) {
        String before = answers(x);
        same("isolate(" + v + ")", x.isolate(v), due);
        if (due <= 0) {
            same("after isolate(" + v + ")", answers(x), before);
        }
    }

    static void can(DynamicShortPaths x, int u, int v, int w, boolean due) {
        String before = answers(x);
        same("canSet(" + u + ", " + v + ", " + w + ")", x.canSet(u, v, w), due);
        same("after canSet(" + u + ", " + v + ", " + w + ")", answers(x), before);
    }

    private static void unchangedIfRefused(
            DynamicShortPaths x, String call, int due, java.util.function.IntSupplier change) {
        String before = answers(x);
        same(call, change.getAsInt(), due);
        if (due != DynamicShortPaths.OK) {
            same("after the refused " + call, answers(x), before);
        }
    }

    static void end() {
        System.out.println(done + " answers, " + wrong + " not as due");
        if (wrong != 0 || done == 0) {
            System.exit(1);
        }
    }
}
