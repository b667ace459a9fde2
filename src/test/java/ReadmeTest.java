import java.io.IOException;
import java.lang.reflect.Method;
import java.lang.reflect.Modifier;
import java.net.URL;
import java.net.URLClassLoader;
import java.nio.file.Files;
import java.nio.file.Path;
import java.util.List;
import java.util.regex.Matcher;
import java.util.regex.Pattern;
import java.util.stream.Stream;
import javax.tools.JavaCompiler;
import javax.tools.ToolProvider;

/** README.md: its example compiles, each answer in it is that of the class, and all calls and tests are named. */
public final class ReadmeTest {
    /** A call, and behind it the answer that README.md tells. */
    private static final Pattern TOLD = Pattern.compile("(\\s*)(int \\w+ = )?(watch\\..*\\));\\s*// (-?\\d+)\\b.*");

    public static void main(String[] args) throws Exception {
        List<String> lines = Files.readAllLines(Path.of("README.md"));
        answers(lines);
        namesAllCalls(String.join("\n", lines));
        namesAllTests(String.join("\n", lines));
        Check.end();
    }

    /** All blocks of Java together are one program, in which each answer is looked at. */
    private static void answers(List<String> lines) throws Exception {
        StringBuilder program = new StringBuilder("public final class ReadmeExample {\n    public static void run() {\n");
        boolean java = false;
        int told = 0;
        for (String line : lines) {
            if (line.startsWith("```")) {
                java = line.equals("```java");
                continue;
            }
            Matcher m = TOLD.matcher(line);
            if (java && m.matches()) {
                told++;
                String type = m.group(2) == null ? "" : m.group(2) + "(int) ";
                program.append(type).append("ReadmeTest.due(\"").append(m.group(3).replace("\"", "\\\"")).append("\", ")
                    .append(m.group(3)).append(", ").append(m.group(4)).append(");\n");
            } else if (java) {
                program.append(line).append('\n');
            }
        }
        Check.isTrue("README.md tells answers: " + told, told > 40);
        compileAndRun(program.append("    }\n}\n").toString());
    }

    /** For the example alone, which another class loader brings: so it is public. */
    public static long due(String call, long got, long want) {
        Check.due(0, "README.md: " + call, got, want);
        return got;
    }

    private static void compileAndRun(String program) throws Exception {
        Path place = Files.createTempDirectory("readme");
        Path source = place.resolve("ReadmeExample.java");
        Files.writeString(source, program);
        JavaCompiler compiler = ToolProvider.getSystemJavaCompiler();
        int failed = compiler.run(null, null, null, "-cp", System.getProperty("java.class.path"), "-d", place.toString(),
            source.toString());
        Check.isTrue("the example compiles", failed == 0);
        if (failed == 0) {
            URL[] places = {place.toUri().toURL()};
            try (URLClassLoader loader = new URLClassLoader(places, ReadmeTest.class.getClassLoader())) {
                loader.loadClass("ReadmeExample").getMethod("run").invoke(null);
            }
        }
        try (Stream<Path> files = Files.list(place)) {
            for (Path file : files.toList()) {
                Files.delete(file);
            }
        }
        Files.delete(place);
    }

    private static void namesAllCalls(String readme) {
        for (Method m : SlowWatch.class.getDeclaredMethods()) {
            if (Modifier.isPublic(m.getModifiers())) {
                Check.isTrue("README.md names " + m.getName(), readme.contains("`" + m.getName() + "`"));
            }
        }
    }

    private static void namesAllTests(String readme) throws IOException {
        try (Stream<Path> files = Files.list(Path.of("src/test/java"))) {
            for (Path file : files.toList()) {
                String name = file.getFileName().toString().replace(".java", "");
                if (name.endsWith("Test")) {
                    Check.isTrue("README.md names " + name, readme.contains("`" + name + "`"));
                }
            }
        }
    }
}
