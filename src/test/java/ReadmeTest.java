import java.io.IOException;
import java.lang.reflect.Method;
import java.lang.reflect.Modifier;
import java.nio.file.Files;
import java.nio.file.Path;
import java.util.ArrayList;
import java.util.List;
import java.util.regex.Matcher;
import java.util.regex.Pattern;
import javax.tools.JavaCompiler;
import javax.tools.ToolProvider;

/** The example in README.md answers as its comments say, and calls each method of the class. */
public final class ReadmeTest {
    private static final String FIRST_LINE = "FairLoops x = new FairLoops();";
    /** A call, perhaps kept in a variable, and what its comment says that it answers or throws. */
    private static final Pattern CALL = Pattern.compile(
            "(?:int (\\w+) = )?(x\\.(\\w+)\\(.*\\));\\s+// (?:throws (\\w+)|(-?\\d+|true|false))(?:: .*)?");

    public static void main(String[] args) throws Exception {
        Due due = new Due();
        List<String> example = example();
        due.same("the first line", example.isEmpty() ? "" : example.get(0), FIRST_LINE);
        List<String> called = new ArrayList<>();
        StringBuilder program = new StringBuilder("final class ReadmeExample {\n"
                + "    static void run(Due due) {\n" + FIRST_LINE + "\n");
        for (String line : example.subList(Math.min(1, example.size()), example.size())) {
            Matcher call = CALL.matcher(line);
            boolean read = call.matches();
            due.is("a call with its answer: " + line, read, true);
            if (read) {
                called.add(call.group(3));
                program.append(check(call));
            }
        }
        for (Method method : FairLoops.class.getDeclaredMethods()) {
            if (Modifier.isPublic(method.getModifiers())) {
                due.is("the example calls " + method.getName(), called.contains(method.getName()), true);
            }
        }
        run(program.append("    }\n}\n").toString(), due);
        due.end();
    }

    /** The lines of README.md's one piece of Java that say something. */
    private static List<String> example() throws IOException {
        List<String> lines = new ArrayList<>();
        boolean inside = false;
        for (String line : Files.readAllLines(Path.of("README.md"))) {
            if (line.startsWith("```")) {
                inside = line.equals("```java");
            } else if (inside && !line.isBlank()) {
                lines.add(line);
            }
        }
        return lines;
    }

    private static String check(Matcher call) {
        String variable = call.group(1);
        String calls = call.group(2);
        String name = "\"" + calls + "\", ";
        if (call.group(4) != null) {
            return "due.refuses(" + name + call.group(4) + ".class, () -> { " + calls + "; return 0; });\n";
        }
        if (variable != null) {
            return "int " + variable + " = " + calls + ";\n"
                    + "due.is(" + name + variable + ", " + call.group(5) + ");\n";
        }
        return "due.is(" + name + calls + ", " + call.group(5) + ");\n";
    }

    /** Compiles the program next to this test, where the same class path finds it. */
    private static void run(String program, Due due) throws Exception {
        Path folder = Path.of(System.getProperty("java.class.path"));
        Path file = Files.writeString(folder.resolve("ReadmeExample.java"), program);
        JavaCompiler compiler = ToolProvider.getSystemJavaCompiler();
        int failed = compiler == null ? 1
                : compiler.run(null, null, null, "-cp", folder.toString(), "-d", folder.toString(), file.toString());
        due.is("the example's compiler", failed, 0);
        if (failed == 0) {
            Class.forName("ReadmeExample").getDeclaredMethod("run", Due.class).invoke(null, due);
        }
    }
}
