import java.io.IOException;
import java.lang.reflect.Method;
import java.net.URL;
import java.net.URLClassLoader;
import java.nio.charset.StandardCharsets;
import java.nio.file.Files;
import java.nio.file.Path;
import java.util.ArrayList;
import java.util.Comparator;
import java.util.List;
import java.util.Set;
import java.util.TreeSet;
import java.util.regex.Matcher;
import java.util.regex.Pattern;
import java.util.stream.Collectors;
import java.util.stream.Stream;
import javax.tools.JavaCompiler;
import javax.tools.ToolProvider;

/** The examples of README.md compile, and answer as it says there; it names each call and each test. */
public final class ReadmeTest {
    private static final Due T = new Due();
    private static final Pattern EXAMPLE = Pattern.compile("(?ms)^```java\n(.*?)^```$");
    /** A call that stands alone: its answer is told behind it, ahead of a colon. */
    private static final Pattern CALL = Pattern.compile("x\\.(\\w+)\\(.*\\);(.*)");
    private static final Pattern ANSWER = Pattern.compile(" +// ([^:]+)(: .+)?");
    private static final String NAME = "ReadmeExamples";

    public static void main(String[] args) throws IOException, ReflectiveOperationException {
        Path project = Path.of(args.length > 0 ? args[0] : ".");
        String readme = Files.readString(project.resolve("README.md"), StandardCharsets.UTF_8);
        List<String> examples = examples(readme);
        T.holds("there are examples", !examples.isEmpty());
        everyCallIsShown(examples);
        everyTestIsNamed(readme, project.resolve("src/test/java"));
        run(examples);
        T.end();
    }

    private static List<String> examples(String readme) {
        return EXAMPLE.matcher(readme).results().map(m -> m.group(1)).collect(Collectors.toList());
    }

    private static void everyCallIsShown(List<String> examples) {
        String all = String.join("", examples);
        for (Method m : Face.methods()) {
            T.holds(m.getName() + "() is shown", all.contains("x." + m.getName() + "("));
        }
    }

    private static void everyTestIsNamed(String readme, Path tests) throws IOException {
        Set<String> named = new TreeSet<>();
        Matcher row = Pattern.compile("(?m)^\\| (\\w+Test) \\|").matcher(readme);
        while (row.find()) {
            named.add(row.group(1));
        }
        try (Stream<Path> files = Files.list(tests)) {
            Set<String> there = files.map(f -> f.getFileName().toString()).filter(f -> f.endsWith("Test.java"))
                    .map(f -> f.replace(".java", "")).collect(Collectors.toCollection(TreeSet::new));
            T.holds("the tests named, " + named + ", are those there, " + there, named.equals(there));
        }
    }

    private static void run(List<String> examples) throws IOException, ReflectiveOperationException {
        Path work = Files.createTempDirectory("readme");
        try {
            Path source = work.resolve(NAME + ".java");
            Files.writeString(source, asClass(examples), StandardCharsets.UTF_8);
            JavaCompiler javac = ToolProvider.getSystemJavaCompiler();
            int failed = javac.run(null, System.out, System.out, "-cp", System.getProperty("java.class.path"),
                    "-d", work.toString(), source.toString());
            T.due("compiling the examples", failed, 0);
            if (failed == 0) {
                call(work, examples.size());
            }
        } finally {
            remove(work);
        }
    }

    /** A method for each example, so that each has an object x of its own. */
    private static String asClass(List<String> examples) {
        StringBuilder code = new StringBuilder("public final class " + NAME + " {\n");
        for (int i = 0; i < examples.size(); i++) {
            code.append("public static void example").append(i).append("(java.util.List<Object[]> got) {\n");
            for (String line : examples.get(i).split("\n")) {
                code.append(asStatement(line)).append('\n');
            }
            code.append("}\n");
        }
        return code.append("}\n").toString();
    }

    private static String asStatement(String line) {
        Matcher call = CALL.matcher(line);
        if (!call.matches()) {
            return line;
        }
        String told = line.substring(0, call.start(2) - 1);
        Matcher answer = ANSWER.matcher(call.group(2));
        boolean isTold = answer.matches();
        T.holds("the answer of " + told + " is told", isTold);
        return isTold ? "got.add(new Object[] {\"" + told + "\", (long) " + told + ", (long) (" + answer.group(1) + ")});"
                : line;
    }

    private static void call(Path work, int many) throws IOException, ReflectiveOperationException {
        URL[] places = {work.toUri().toURL()};
        try (URLClassLoader loader = new URLClassLoader(places, ReadmeTest.class.getClassLoader())) {
            Class<?> compiled = loader.loadClass(NAME);
            for (int i = 0; i < many; i++) {
                List<Object[]> got = new ArrayList<>();
                compiled.getMethod("example" + i, List.class).invoke(null, got);
                T.holds("example " + i + " has calls", !got.isEmpty());
                for (Object[] answer : got) {
                    T.due("example " + i + " of README.md, " + answer[0], (Long) answer[1], (Long) answer[2]);
                }
            }
        }
    }

    private static void remove(Path work) throws IOException {
        try (Stream<Path> all = Files.walk(work)) {
            for (Path path : all.sorted(Comparator.reverseOrder()).collect(Collectors.toList())) {
                Files.delete(path);
            }
        }
    }
}
