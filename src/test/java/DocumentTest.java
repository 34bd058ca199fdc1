import java.io.IOException;
import java.nio.file.Files;
import java.nio.file.Path;
import java.util.ArrayList;
import java.util.List;
import java.util.Set;
import java.util.TreeSet;
import java.util.regex.Matcher;
import java.util.regex.Pattern;
import java.util.stream.Stream;

/** ../shared/DOC.md: that the class has its public face, sign by sign, and that each promise has a test. */
public final class DocumentTest {
    private static final Checks checks = new Checks();

    public static void main(String[] args) throws IOException {
        String document = Files.readString(Path.of("../shared/DOC.md"));
        String program = Files.readString(Path.of("src/main/java/SlateHalves.java"));
        face(document, program);
        parts(document, program);
        promises(document);
        checks.end();
    }

    /** The lines of the document's face, with their names, in their order. */
    private static void face(String document, String program) {
        checks.begin("'The public face'");
        Matcher m = Pattern.compile("(?s)## The public face\n\n```java\n(.*?)```").matcher(document);
        checks.holds("the document has one", m.find());
        int place = -1;
        for (String line : m.group(1).lines().toList()) {
            String head = line.contains("(") ? line.replace(";", " {") : line;
            if (!line.equals("}")) {
                int next = program.indexOf(line.startsWith(" ") ? "\n" + head + "\n" : head);
                checks.holds("behind the ones before it: " + line, next > place);
                place = next;
            }
        }
    }

    /** Ahead of which calls the interface says what. */
    private static void parts(String document, String program) {
        checks.begin("'Ahead of the calls .. the interface says'");
        Matcher m = Pattern.compile("Ahead of the calls `(\\w+)`.* the interface says: (---- .*)\\.").matcher(document);
        int found = 0;
        while (m.find()) {
            found++;
            String ahead = "    // " + m.group(2) + "\n\n    public \\w+ " + m.group(1) + "\\(";
            checks.holds(m.group(2) + ", ahead of " + m.group(1), Pattern.compile(ahead).matcher(program).find());
        }
        checks.due("how many there are", found, 6);
    }

    /** Each promise's number begins the name of a part of some test. */
    private static void promises(String document) throws IOException {
        checks.begin("the promises");
        Set<String> tested = testedNumbers();
        List<String> numbers = new ArrayList<>();
        Matcher m = Pattern.compile("(?m)^## Promise (\\d+): ").matcher(document);
        while (m.find()) {
            numbers.add(m.group(1));
        }
        checks.due("how many there are", numbers.size(), 37);
        for (String number : numbers) {
            checks.holds("promise " + number + " has a test", tested.contains(number));
        }
    }

    private static Set<String> testedNumbers() throws IOException {
        Set<String> numbers = new TreeSet<>();
        try (Stream<Path> files = Files.list(Path.of("src/test/java"))) {
            for (Path file : files.filter(f -> f.getFileName().toString().startsWith("Edges")).toList()) {
                Matcher m = Pattern.compile("begin\\(\"(\\d+),").matcher(Files.readString(file));
                while (m.find()) {
                    numbers.add(m.group(1));
                }
            }
        }
        return numbers;
    }
}
