import java.io.File;
import java.io.IOException;
import java.lang.reflect.Field;
import java.lang.reflect.Method;
import java.lang.reflect.Modifier;
import java.net.URL;
import java.net.URLClassLoader;
import java.nio.file.Files;
import java.nio.file.Path;
import java.util.List;
import java.util.regex.Matcher;
import java.util.regex.Pattern;
import javax.tools.ToolProvider;

// The README's examples are compiled and run, each call with the answer that its comment begins with; and the README tells
// every call, constant and test.
public final class ReadmeTest {
    private static final Pattern CALL = Pattern.compile(
        "\\s*(?:int (\\w+) = )?(wire\\.\\w+\\([^;]*\\));\\s+// (true|false|-?\\d+|[A-Z_]+)(?:: .*)?");
    private static final String DUE = ""
        + "    private static int wrong = 0;\n"
        + "    private static void due(int line, long got, long want) {\n"
        + "        if (got != want) { wrong++; System.out.println(\"README.md:\" + line + \": answered \" + got); }\n"
        + "    }\n"
        + "    private static void due(int line, boolean got, boolean want) { due(line, got ? 1 : 0, want ? 1 : 0); }\n";

    private static int wrong = 0;
    private static int calls = 0;

    private static void tell(String what) {
        wrong++;
        System.out.println(what);
    }

    public static void main(String[] args) throws Exception {
        List<String> readme = Files.readAllLines(Path.of("README.md"));
        String program = program(readme);
        int wrongAnswers = runExamples(program);
        wrong += wrongAnswers;
        nothingLeftOut(String.join("\n", readme));
        System.out.println(calls + " calls of the README, " + (wrong == 0 ? "all as due" : wrong + " things not as due"));
        if (wrong != 0) {
            System.exit(1);
        }
    }

    private static String program(List<String> readme) {
        StringBuilder program = new StringBuilder("public final class Examples {\n" + DUE + "    public static int run() {\n{\n");
        boolean inside = false;
        for (int i = 0; i < readme.size(); i++) {
            String line = readme.get(i);
            if (line.startsWith("```")) {
                inside = line.equals("```java");
            } else if (inside) {
                program.append(statement(i + 1, line));
            }
        }
        return program.append("}\n        return wrong;\n    }\n}\n").toString();
    }

    private static String statement(int number, String line) {
        Matcher call = CALL.matcher(line);
        if (call.matches()) {
            calls++;
            String want = call.group(3).matches("[A-Z_]+") ? "GraphWire." + call.group(3) : call.group(3);
            String kept = call.group(1) == null ? "" : "int " + call.group(1) + " = " + call.group(2) + ";\n";
            String got = call.group(1) == null ? call.group(2) : call.group(1);
            return kept + "due(" + number + ", " + got + ", " + want + ");\n";
        }
        if (line.contains("wire.")) {
            tell("README.md:" + number + ": a call without its answer");
        }
        // An example that makes its own GraphWire is a new one; the others go on with the one before.
        return line.startsWith("GraphWire ") ? "}\n{\n" + line + "\n" : line + "\n";
    }

    private static int runExamples(String program) throws Exception {
        Path place = Files.createTempDirectory("readme");
        try {
            Path source = Files.writeString(place.resolve("Examples.java"), program);
            int refused = ToolProvider.getSystemJavaCompiler().run(null, null, null,
                "-cp", System.getProperty("java.class.path"), "-d", place.toString(), source.toString());
            if (refused != 0) {
                tell("the examples do not compile");
                return 0;
            }
            try (URLClassLoader loader = new URLClassLoader(new URL[] {place.toUri().toURL()})) {
                return (int) loader.loadClass("Examples").getMethod("run").invoke(null);
            }
        } finally {
            clear(place);
        }
    }

    private static void clear(Path place) throws IOException {
        for (File file : place.toFile().listFiles()) {
            Files.delete(file.toPath());
        }
        Files.delete(place);
    }

    private static void nothingLeftOut(String readme) throws Exception {
        for (Method method : GraphWire.class.getDeclaredMethods()) {
            if (Modifier.isPublic(method.getModifiers()) && !readme.contains("| `" + method.getName() + "(")) {
                tell("README.md: nothing on the call " + method.getName());
            }
        }
        for (Field constant : GraphWire.class.getFields()) {
            if (!readme.replace('\n', ' ').contains("`" + constant.getName() + "` (" + constant.getInt(null) + ")")) {
                tell("README.md: nothing on the constant " + constant.getName());
            }
        }
        for (File test : new File("src/test/java").listFiles()) {
            if (!readme.contains("`" + test.getName().replace(".java", "") + "`")) {
                tell("README.md: nothing on the test " + test.getName());
            }
        }
        if (calls == 0) {
            tell("README.md: no example");
        }
    }
}
