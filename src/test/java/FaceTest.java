import java.lang.reflect.Constructor;
import java.lang.reflect.Field;
import java.lang.reflect.Method;
import java.lang.reflect.Modifier;
import java.util.Arrays;
import java.util.Set;
import java.util.TreeSet;

// The public face is the one of the document, and nothing else of the class can be seen.
public final class FaceTest {
    private static final String[] FACE = {
        "BAD = -1", "NO_CLASS = -2", "VERSION = -3", "KIND = -4", "FULL = -5",
        "GraphWire []",
        "boolean define [int, int, int, int]",
        "boolean field [int, int, int, int]",
        "int make [int, int]",
        "boolean set [int, int, long]",
        "boolean link [int, int, int]",
        "boolean pin [int, boolean]",
        "int collect [int]",
        "int send [int, boolean]",
        "boolean reset [int]",
        "long num [int, int]",
        "int ref [int, int]",
        "int look [int]",
        "int sent [int]",
        "int culprit []",
        "boolean alike [int, int]",
    };

    public static void main(String[] args) throws Exception {
        Set<String> due = new TreeSet<>(Arrays.asList(FACE));
        Set<String> seen = new TreeSet<>();
        for (Field f : GraphWire.class.getDeclaredFields()) {
            if (!Modifier.isPrivate(f.getModifiers())) {
                seen.add(f.getModifiers() == 25 && f.getType() == int.class ? f.getName() + " = " + f.getInt(null) : f.toString());
            }
        }
        for (Constructor<?> c : GraphWire.class.getDeclaredConstructors()) {
            seen.add(c.getModifiers() == Modifier.PUBLIC ? "GraphWire " + Arrays.toString(c.getParameterTypes()) : c.toString());
        }
        for (Method m : GraphWire.class.getDeclaredMethods()) {
            if (!Modifier.isPrivate(m.getModifiers())) {
                seen.add(m.getModifiers() == Modifier.PUBLIC
                    ? m.getReturnType() + " " + m.getName() + " " + Arrays.toString(m.getParameterTypes()) : m.toString());
            }
        }
        boolean shape = GraphWire.class.getModifiers() == (Modifier.PUBLIC | Modifier.FINAL)
            && GraphWire.class.getSuperclass() == Object.class && GraphWire.class.getInterfaces().length == 0;
        if (!shape || !seen.equals(due)) {
            System.out.println("the public face is " + seen + ", due is " + due);
            System.exit(1);
        }
        System.out.println("the public face is as due");
    }
}
