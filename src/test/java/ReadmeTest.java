import java.io.IOException;
import java.net.URL;
import java.net.URLClassLoader;
import java.nio.file.Files;
import java.nio.file.Path;
import java.util.ArrayList;
import java.util.List;
import java.util.Set;
import java.util.TreeSet;
import java.util.function.Supplier;
import java.util.regex.Matcher;
import java.util.regex.Pattern;
import java.util.stream.Stream;
import javax.tools.ToolProvider;

/** What README.md shows holds when it is run, and what it says of the tests is so. */
public final class ReadmeTest {
    private static final Check CHECK = new Check();
    private static final Path README = Path.of("README.md");
    private static final Path TESTS = Path.of("src/test/java");
    private static final Path SCRIPT = Path.of(".ci/run");
    private static final List<String> CALLS = List.of(
        "collect", "forget", "read", "fault", "place", "fact", "error", "variable", "count");

    private static final Pattern JAVA = Pattern.compile("(?ms)^```java\n(.*?)^```$");
    // An answer, and behind // what it is: a number, a sign or a constant.
    private static final Pattern ANSWER = Pattern.compile("^int (\\w+) = .*; +// (-?\\d+|'.'|[A-Z]+): .*$");
    private static final Pattern TEST_NAME = Pattern.compile("`(\\w+Test)`");

    private static void due(String what, long got, long want) {
        CHECK.due("README.md: " + what, got, want);
    }

    private static List<String> linesOfUse(String readme) {
        List<String> lines = new ArrayList<>();
        Matcher block = JAVA.matcher(readme);
        while (block.find()) {
            lines.addAll(block.group(1).lines().toList());
        }
        return lines;
    }

    /** A class that runs these lines and hands out, of each answer, what it was and what it is said to be. */
    private static String sourceOf(List<String> lines) {
        StringBuilder source = new StringBuilder("public class Use implements "
            + "java.util.function.Supplier<java.util.List<long[]>> {\npublic java.util.List<long[]> get() {\n"
            + "java.util.List<long[]> answers = new java.util.ArrayList<>();\n");
        for (String line : lines) {
            source.append(line).append('\n');
            Matcher answer = ANSWER.matcher(line);
            if (answer.matches()) {
                boolean isConstant = Character.isUpperCase(answer.group(2).charAt(0));
                source.append("answers.add(new long[] {").append(answer.group(1)).append(", ");
                source.append(isConstant ? "AssignFlow." : "").append(answer.group(2)).append("});\n");
            }
        }
        return source.append("return answers;\n}\n}\n").toString();
    }

    @SuppressWarnings("unchecked")
    private static List<long[]> run(String source) throws IOException, ReflectiveOperationException {
        Path dir = Files.createTempDirectory("readme");
        Path file = dir.resolve("Use.java");
        Path made = dir.resolve("Use.class");
        try {
            Files.writeString(file, source);
            int compiled = ToolProvider.getSystemJavaCompiler().run(null, null, null, "-cp",
                System.getProperty("java.class.path"), "-d", dir.toString(), file.toString());
            due("what it shows is compiled", compiled, 0);
            if (compiled != 0) {
                return List.of();
            }
            try (URLClassLoader loader = new URLClassLoader(new URL[] {dir.toUri().toURL()})) {
                return ((Supplier<List<long[]>>) loader.loadClass("Use").getDeclaredConstructor().newInstance()).get();
            }
        } finally {
            Files.deleteIfExists(made);
            Files.deleteIfExists(file);
            Files.deleteIfExists(dir);
        }
    }

    private static void use(String readme) throws IOException, ReflectiveOperationException {
        List<String> lines = linesOfUse(readme);
        List<String> told = lines.stream().filter(line -> ANSWER.matcher(line).matches()).toList();
        List<long[]> answers = run(sourceOf(lines));
        due("answers", answers.size(), told.size());
        for (int i = 0; i < answers.size() && i < told.size(); i++) {
            due(told.get(i), answers.get(i)[0], answers.get(i)[1]);
        }
        for (String line : lines) {
            CHECK.isTrue("an answer that is compared: " + line, !line.contains("//") || told.contains(line));
        }
        for (String call : CALLS) {
            boolean isShown = lines.stream().anyMatch(line -> line.contains("flow." + call + "("));
            CHECK.isTrue("README.md shows " + call, isShown);
        }
    }

    private static Set<String> testsThatAre() throws IOException {
        Set<String> names = new TreeSet<>();
        try (Stream<Path> files = Files.list(TESTS)) {
            files.map(file -> file.getFileName().toString()).filter(name -> name.endsWith("Test.java"))
                .forEach(name -> names.add(name.replace(".java", "")));
        }
        return names;
    }

    private static void tests(String readme) throws IOException {
        Set<String> told = new TreeSet<>();
        Matcher name = TEST_NAME.matcher(readme);
        while (name.find()) {
            told.add(name.group(1));
        }
        Set<String> are = testsThatAre();
        CHECK.isTrue("README.md tells of " + told + ", there are " + are, told.equals(are));
        CHECK.isTrue("README.md says how to run them", readme.contains("\n    .ci/run\n"));
        CHECK.isTrue(SCRIPT + " can be run", Files.isExecutable(SCRIPT));
    }

    public static void main(String[] args) throws IOException, ReflectiveOperationException {
        String readme = Files.readString(README);
        use(readme);
        tests(readme);
        CHECK.end();
    }
}
