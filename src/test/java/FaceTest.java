import java.lang.reflect.Constructor;
import java.lang.reflect.Field;
import java.lang.reflect.Method;
import java.lang.reflect.Modifier;
import java.util.TreeSet;

/** The public face: exactly the constants, the constructor and the methods of the document. */
final class FaceTest {
    private static final String FACE =
        "DynamicShortPaths(int, int, int)\n"
        + "boolean canSet(int, int, int)\n"
        + "boolean hasEdge(int, int)\n"
        + "boolean isReachable(int)\n"
        + "const BAD_VERTEX = 1\n"
        + "const BAD_WEIGHT = 2\n"
        + "const EXISTS = 3\n"
        + "const FULL = 5\n"
        + "const MAX_EDGES = 128\n"
        + "const MAX_VERTICES = 32\n"
        + "const MAX_WEIGHT = 1000\n"
        + "const MIN_WEIGHT = -1000\n"
        + "const MISSING = 4\n"
        + "const NEG_CYCLE = 6\n"
        + "const NO_DIST = 2147483647\n"
        + "const NO_EDGE = 2147483647\n"
        + "const OK = 0\n"
        + "int addEdge(int, int, int)\n"
        + "int edgeCount()\n"
        + "int getDist(int)\n"
        + "int getHops(int)\n"
        + "int getParent(int)\n"
        + "int getSource()\n"
        + "int getWeight(int, int)\n"
        + "int isolate(int)\n"
        + "int reachableCount()\n"
        + "int removeEdge(int, int)\n"
        + "int setSource(int)\n"
        + "int setWeight(int, int, int)\n"
        + "int vertexCount()\n";

    private FaceTest() {
    }

    public static void main(String[] args) throws IllegalAccessException {
        Class<?> c = DynamicShortPaths.class;
        Check.same("public", Modifier.isPublic(c.getModifiers()), true);
        Check.same("final", Modifier.isFinal(c.getModifiers()), true);
        Check.same("nested classes", c.getDeclaredClasses().length, 0);
        TreeSet<String> lines = new TreeSet<>();
        for (Constructor<?> k : c.getDeclaredConstructors()) {
            lines.add(visibility(k.getModifiers()) + c.getName() + parameters(k.getParameterTypes()));
        }
        for (Method m : c.getDeclaredMethods()) {
            if (!Modifier.isPrivate(m.getModifiers())) {
                lines.add(visibility(m.getModifiers()) + m.getReturnType() + " " + m.getName()
                    + parameters(m.getParameterTypes()));
            }
        }
        for (Field f : c.getDeclaredFields()) {
            if (!Modifier.isPrivate(f.getModifiers())) {
                lines.add(visibility(f.getModifiers()) + constant(f));
            }
        }
        StringBuilder face = new StringBuilder();
        for (String line : lines) {
            face.append(line).append('\n');
        }
        Check.same("the face", face.toString(), FACE);
        Check.end();
    }

    private static String visibility(int modifiers) {
        return Modifier.isPublic(modifiers) ? "" : "not public: ";
    }

    private static String constant(Field f) throws IllegalAccessException {
        boolean constant = Modifier.isStatic(f.getModifiers()) && Modifier.isFinal(f.getModifiers());
        if (!constant || f.getType() != int.class) {
            return "not a constant int: " + f.getName();
        }
        return "const " + f.getName() + " = " + f.getInt(null);
    }

    private static String parameters(Class<?>[] types) {
        StringBuilder text = new StringBuilder();
        for (Class<?> type : types) {
            text.append(text.length() == 0 ? "" : ", ").append(type);
        }
        return "(" + text + ")";
    }
}
