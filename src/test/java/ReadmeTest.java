import java.io.IOException;
import java.lang.reflect.Method;
import java.lang.reflect.Modifier;
import java.net.URL;
import java.net.URLClassLoader;
import java.nio.file.Files;
import java.nio.file.Path;
import java.util.ArrayList;
import java.util.List;
import java.util.regex.Matcher;
import java.util.regex.Pattern;
import javax.tools.ToolProvider;

/** The examples of README.md compile, answer what their comments say, and use the whole face. */
public final class ReadmeTest {
    private static final Pattern BLOCK = Pattern.compile("```java\n(.*?)```", Pattern.DOTALL);
    /** A call, perhaps kept in a variable, and the answer that its comment begins with. */
    private static final Pattern ANSWERED =
            Pattern.compile("(?:int (\\w+) = )?(x\\.(\\w+)\\(.*\\)); *// (-?\\d+|true|false)\\b.*");
    private static final Pattern UNANSWERED = Pattern.compile("(?:\\w+ \\w+ = )?[^;]*;");
    private static int wrong = 0;

    public static void main(String[] args) throws Exception {
        String readme = Files.readString(Path.of("README.md")).replace("\r\n", "\n");
        List<String> examples = new ArrayList<>();
        Matcher blocks = BLOCK.matcher(readme);
        while (blocks.find()) {
            examples.add(blocks.group(1));
        }
        check(!examples.isEmpty(), "README.md has no example");
        check(readme.contains(".ci/run"), "README.md does not say how the tests are run");
        findWholeFace(String.join("", examples));
        run(examples);
        System.out.println(wrong == 0 ? "the examples of README.md are true" : wrong + " faults in README.md");
        if (wrong != 0) {
            System.exit(1);
        }
    }

    /** Called by the examples once they are compiled. */
    public static void answer(String line, Object got, Object due) {
        check(got.equals(due), line + " -- the answer is " + got);
    }

    private static void findWholeFace(String examples) {
        for (Method m : SwitchedNets.class.getDeclaredMethods()) {
            check(!Modifier.isPublic(m.getModifiers()) || examples.contains("x." + m.getName() + "("),
                    "no example in README.md calls " + m.getName());
        }
    }

    private static void run(List<String> examples) throws Exception {
        Path dir = Files.createTempDirectory("readme");
        try {
            Path source = dir.resolve("ReadmeExamples.java");
            Files.writeString(source, programOf(examples));
            int failed = ToolProvider.getSystemJavaCompiler().run(null, null, null,
                    "-cp", System.getProperty("java.class.path"), "-d", dir.toString(), source.toString());
            check(failed == 0, "the examples of README.md do not compile");
            if (failed == 0) {
                runCompiled(dir);
            }
        } finally {
            delete(dir);
        }
    }

    private static void runCompiled(Path dir) throws Exception {
        URL[] places = {dir.toUri().toURL()};
        try (URLClassLoader loader = new URLClassLoader(places, ReadmeTest.class.getClassLoader())) {
            loader.loadClass("ReadmeExamples").getMethod("run").invoke(null);
        }
    }

    private static void delete(Path dir) throws IOException {
        try (var files = Files.list(dir)) {
            for (Path file : files.toList()) {
                Files.delete(file);
            }
        }
        Files.delete(dir);
    }

    private static String programOf(List<String> examples) {
        StringBuilder program = new StringBuilder("public final class ReadmeExamples {\n");
        program.append("    public static void run() {\n");
        for (String example : examples) {
            program.append("        {\n");
            for (String line : example.split("\n")) {
                program.append(statementOf(line)).append('\n');
            }
            program.append("        }\n");
        }
        return program.append("    }\n}\n").toString();
    }

    private static String statementOf(String line) {
        Matcher m = ANSWERED.matcher(line);
        if (!m.matches()) {
            check(UNANSWERED.matcher(line).matches(), "README.md has a comment without an answer: " + line);
            return line;
        }
        String quoted = '"' + line.replace("\\", "\\\\").replace("\"", "\\\"") + '"';
        String name = m.group(1);
        String kept = name == null ? "" : "int " + name + " = " + m.group(2) + "; ";
        String value = name == null ? m.group(2) : name;
        return kept + "ReadmeTest.answer(" + quoted + ", " + value + ", " + m.group(4) + ");";
    }

    private static void check(boolean holds, String fault) {
        if (!holds) {
            wrong++;
            System.out.println(fault);
        }
    }
}
