import java.io.IOException;
import java.lang.reflect.Method;
import java.net.URL;
import java.net.URLClassLoader;
import java.nio.file.Files;
import java.nio.file.Path;
import java.util.ArrayList;
import java.util.List;
import java.util.Set;
import java.util.TreeSet;
import java.util.regex.Matcher;
import java.util.regex.Pattern;
import java.util.stream.Stream;

/** README.md: that its example compiles and answers as it says, and that it names every call and every test. */
public final class ReadmeTest {
    private static final Pattern ANSWERED = Pattern.compile("(?:int (\\w+) = )?(x\\..*\\)); +// (-?\\d+): .*");
    private static final Checks checks = new Checks();

    public static void main(String[] args) throws Exception {
        String readme = Files.readString(Path.of("README.md"));
        checks.begin("README, the example");
        runExample(exampleOf(readme));
        checks.begin("README, the calls");
        namesAllCalls(readme);
        checks.begin("README, the tests");
        namesAllTests(readme);
        checks.end();
    }

    private static List<String> exampleOf(String readme) {
        Matcher m = Pattern.compile("(?s)```java\n(.*?)```").matcher(readme);
        return m.find() ? m.group(1).lines().toList() : List.of();
    }

    private static void runExample(List<String> lines) throws Exception {
        int answers = 0;
        StringBuilder code = new StringBuilder("public final class Example {\n"
                + "public static void run(java.util.List<String> calls, java.util.List<Long> answers) {\n");
        for (String line : lines) {
            Matcher m = ANSWERED.matcher(line);
            if (!m.matches()) {
                code.append(line).append('\n');
                continue;
            }
            answers++;
            String answer = m.group(2);
            if (m.group(1) != null) {
                code.append(line).append('\n');
                answer = m.group(1);
            }
            code.append("calls.add(\"").append(m.group(2)).append(" // ").append(m.group(3)).append("\");\n");
            code.append("answers.add((long) ").append(answer).append(");\n");
        }
        code.append("}\n}\n");
        checks.holds("it tells answers", answers > 0);
        checkAnswers(code.toString());
    }

    private static void checkAnswers(String code) throws Exception {
        Path dir = Files.createTempDirectory("readme");
        try {
            Path file = dir.resolve("Example.java");
            Files.writeString(file, code);
            Process javac = new ProcessBuilder("javac", "-cp", System.getProperty("java.class.path"),
                    "-d", dir.toString(), file.toString()).inheritIO().start();
            boolean isCompiled = javac.waitFor() == 0;
            checks.holds("it compiles", isCompiled);
            if (isCompiled) {
                askCompiled(dir);
            }
        } finally {
            removeAll(dir);
        }
    }

    private static void askCompiled(Path dir) throws Exception {
        List<String> calls = new ArrayList<>();
        List<Long> answers = new ArrayList<>();
        try (URLClassLoader loader = new URLClassLoader(new URL[] {dir.toUri().toURL()})) {
            Method run = loader.loadClass("Example").getMethod("run", List.class, List.class);
            run.invoke(null, calls, answers);
        }
        for (int i = 0; i < calls.size(); i++) {
            String[] parts = calls.get(i).split(" // ");
            checks.due(parts[0], answers.get(i), Long.parseLong(parts[1]));
        }
    }

    private static void removeAll(Path dir) throws IOException {
        try (Stream<Path> files = Files.list(dir)) {
            for (Path file : files.toList()) {
                Files.delete(file);
            }
        }
        Files.delete(dir);
    }

    private static void namesAllCalls(String readme) {
        Set<String> missing = new TreeSet<>();
        for (Method m : SlateHalves.class.getMethods()) {
            if (m.getDeclaringClass() == SlateHalves.class && !readme.contains("`" + m.getName() + "`")) {
                missing.add(m.getName());
            }
        }
        checks.holds("every call is named, not " + missing, missing.isEmpty());
    }

    private static void namesAllTests(String readme) throws IOException {
        try (Stream<Path> files = Files.list(Path.of("src/test/java"))) {
            for (Path file : files.toList()) {
                String name = file.getFileName().toString().replace(".java", "");
                checks.holds(name + " is named", readme.contains("`" + name + "`"));
            }
        }
    }
}
