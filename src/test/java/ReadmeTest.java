import java.io.IOException;
import java.lang.reflect.Method;
import java.lang.reflect.Modifier;
import java.net.URL;
import java.net.URLClassLoader;
import java.nio.file.Files;
import java.nio.file.Path;
import java.util.ArrayList;
import java.util.List;
import java.util.Set;
import java.util.TreeSet;
import java.util.regex.Matcher;
import java.util.regex.Pattern;
import java.util.stream.Stream;
import javax.tools.ToolProvider;

/** What README.md says is so: its example is compiled and run, and what it names is there. */
public final class ReadmeTest {
    private static final Due due = new Due();
    /** "int hands = theatre.hands(3);  // 2: .." tells the answer that is due. */
    private static final Pattern TOLD = Pattern.compile("(?m)^(?:int|long) (\\w+) = .*; +// (-?\\d+)(:.*)?$");
    private static final Path TESTS = Path.of("src/test/java");

    public static void main(String[] args) throws IOException, ReflectiveOperationException {
        String readme = Files.readString(Path.of("README.md"));
        String example = Document.javaBlock(readme);
        everyMethodIsUsed(example);
        exampleAnswers(example);
        constantsAreTold(readme);
        testsAreNamed(readme);
        due.isTrue(".ci/run can be run", Files.isExecutable(Path.of(".ci/run")) && readme.contains("bash .ci/run"));
        due.finish();
    }

    private static void everyMethodIsUsed(String example) {
        for (Method method : JointedShadows.class.getDeclaredMethods()) {
            if (Modifier.isPublic(method.getModifiers())) {
                due.isTrue("the example uses " + method, example.contains("theatre." + method.getName() + "("));
            }
        }
    }

    private static void exampleAnswers(String example) throws IOException, ReflectiveOperationException {
        List<String> names = new ArrayList<>();
        List<Long> dues = new ArrayList<>();
        Matcher told = TOLD.matcher(example);
        while (told.find()) {
            names.add(told.group(1));
            dues.add(Long.parseLong(told.group(2)));
        }
        due.is("answers told", names.size(), example.split("theatre\\.", -1).length - 1);
        long[] answers = run(example, names);
        for (int i = 0; i < answers.length; i++) {
            due.is("the example's " + names.get(i), answers[i], dues.get(i));
        }
    }

    /** The values of the example's variables with these names, none if it does not compile. */
    private static long[] run(String example, List<String> names) throws IOException, ReflectiveOperationException {
        Path directory = Files.createTempDirectory("readme");
        try {
            Path source = directory.resolve("Example.java");
            Files.writeString(source, "public final class Example { public static long[] answers() {\n" + example
                    + "return new long[] {" + String.join(", ", names) + "}; } }\n");
            int failed = ToolProvider.getSystemJavaCompiler().run(null, null, null, "-classpath",
                    System.getProperty("java.class.path"), "-d", directory.toString(), source.toString());
            due.is("the example does not compile", failed, 0);
            URL[] places = {directory.toUri().toURL()};
            try (URLClassLoader loader = new URLClassLoader(places)) {
                return failed != 0 ? new long[0]
                        : (long[]) loader.loadClass("Example").getMethod("answers").invoke(null);
            }
        } finally {
            delete(directory);
        }
    }

    private static void delete(Path directory) throws IOException {
        try (Stream<Path> files = Files.list(directory)) {
            for (Path file : files.toList()) {
                Files.delete(file);
            }
        }
        Files.delete(directory);
    }

    private static void constantsAreTold(String readme) {
        String[] rows = {
            "| `NO_SUCH_FIGURE` | " + JointedShadows.NO_SUCH_FIGURE + " |",
            "| `NO_SUCH_LIMB` | " + JointedShadows.NO_SUCH_LIMB + " |",
            "| `BAD_VALUE` | " + JointedShadows.BAD_VALUE + " |",
            "| `FULL` | " + JointedShadows.FULL + " |",
            "| `NONE` | " + JointedShadows.NONE + " |",
            "| `NO_VALUE` | `Long.MIN_VALUE` |",
        };
        for (String row : rows) {
            due.isTrue("README.md says " + row, readme.contains(row));
        }
    }

    /** Every test of the project is named, and every name is a file's. */
    private static void testsAreNamed(String readme) throws IOException {
        Set<String> there = new TreeSet<>();
        try (Stream<Path> files = Files.list(TESTS)) {
            files.map(file -> file.getFileName().toString()).filter(name -> name.endsWith("Test.java"))
                    .forEach(name -> there.add(name.replace(".java", "")));
        }
        Set<String> named = new TreeSet<>();
        Matcher names = Pattern.compile("\\b\\w+Test\\b").matcher(readme);
        while (names.find()) {
            named.add(names.group());
        }
        due.isTrue("the tests are " + there + ", README.md names " + named, there.equals(named));
    }
}
