import java.io.IOException;
import java.lang.reflect.Method;
import java.lang.reflect.Modifier;
import java.net.URL;
import java.net.URLClassLoader;
import java.nio.file.Files;
import java.nio.file.Path;
import java.util.ArrayList;
import java.util.Comparator;
import java.util.List;
import java.util.Map;
import java.util.Set;
import java.util.TreeSet;
import java.util.regex.Matcher;
import java.util.regex.Pattern;
import java.util.stream.Stream;
import javax.tools.ToolProvider;

/** What README.md shows compiles, answers as it says, and leaves no call of the class out. */
public final class ReadmeTest {
    private static final Path README = Path.of("README.md");
    private static final Path TESTS = Path.of("src/test/java");
    private static final String SHOWN = "ReadmeShown";
    private static final Pattern BLOCK = Pattern.compile("(?ms)^```java\\n(.*?)^```$");
    /** A call in a line of its own, and the number that it is said to answer. */
    private static final Pattern ANSWERED = Pattern.compile("x\\.((\\w+)\\(.*?\\)); +// (-?\\d+)(:.*)?");
    private static final Pattern CONSTANT = Pattern.compile("`([A-Z]+)` \\((-?\\d+)\\)");
    private static final Pattern TEST = Pattern.compile("(?m)^\\| (\\w+) \\|.*\\|$");
    private static final Map<String, Integer> CONSTANTS = Map.of("BAD", UnsaidScales.BAD, "STATE",
        UnsaidScales.STATE, "FULL", UnsaidScales.FULL, "NONE", UnsaidScales.NONE, "NO", UnsaidScales.NO);

    private final Check check = new Check("ReadmeTest");
    private final Set<String> called = new TreeSet<>();

    public static void main(String[] args) throws IOException, ReflectiveOperationException {
        new ReadmeTest().run();
    }

    private void run() throws IOException, ReflectiveOperationException {
        String readme = Files.readString(README);
        check.part("README.md, the calls");
        runShown(sourceOf(readme));
        for (Method method : UnsaidScales.class.getDeclaredMethods()) {
            if (Modifier.isPublic(method.getModifiers())) {
                check.that(method.getName() + " is shown with an answer", called.contains(method.getName()));
            }
        }
        check.part("README.md, the constants");
        constants(readme);
        check.part("README.md, the tests");
        tests(readme);
        check.end();
    }

    /** All blocks as one method; a call with an answer becomes a question to a Check. */
    private String sourceOf(String readme) {
        List<String> lines = new ArrayList<>();
        Matcher block = BLOCK.matcher(readme);
        while (block.find()) {
            for (String line : block.group(1).split("\n")) {
                lines.add(line.startsWith("x.") ? asQuestion(line) : line);
            }
        }
        return "final class " + SHOWN + " {\n    static void ask(Check check) {\n"
            + String.join("\n", lines) + "\n    }\n}\n";
    }

    private String asQuestion(String line) {
        Matcher answered = ANSWERED.matcher(line);
        boolean says = answered.matches();
        check.that("'" + line + "' says what it answers", says);
        if (!says) {
            return line;
        }
        called.add(answered.group(2));
        String call = answered.group(1);
        return "check.same(\"" + call.replace("\"", "\\\"") + "\", x." + call + ", " + answered.group(3) + ");";
    }

    private void runShown(String source) throws IOException, ReflectiveOperationException {
        Path folder = Files.createTempDirectory("readme");
        try {
            Path file = Files.writeString(folder.resolve(SHOWN + ".java"), source);
            int failed = ToolProvider.getSystemJavaCompiler().run(null, null, null, "-d", folder.toString(),
                "-cp", System.getProperty("java.class.path"), file.toString());
            check.same("what javac says to it", failed, 0);
            if (failed == 0) {
                ask(folder);
            }
        } finally {
            remove(folder);
        }
    }

    /** Has what README.md shows run; the Check that it is given prints what is wrong. */
    private void ask(Path folder) throws IOException, ReflectiveOperationException {
        // Package-visible members are seen within one loader alone, so this one loads Check anew, too.
        List<URL> places = new ArrayList<>();
        places.add(folder.toUri().toURL());
        for (String place : System.getProperty("java.class.path").split(java.io.File.pathSeparator)) {
            places.add(Path.of(place).toUri().toURL());
        }
        try (URLClassLoader loader = new URLClassLoader(places.toArray(new URL[0]),
                ClassLoader.getPlatformClassLoader())) {
            Class<?> checks = loader.loadClass("Check");
            var maker = checks.getDeclaredConstructor(String.class);
            maker.setAccessible(true);
            Object answers = maker.newInstance("README.md");
            Method ask = loader.loadClass(SHOWN).getDeclaredMethod("ask", checks);
            ask.setAccessible(true);
            ask.invoke(null, answers);
            Method allRight = checks.getDeclaredMethod("allRight");
            allRight.setAccessible(true);
            check.that("all calls answer as it says", (Boolean) allRight.invoke(answers));
        }
    }

    private static void remove(Path folder) throws IOException {
        try (Stream<Path> inside = Files.walk(folder)) {
            for (Path path : inside.sorted(Comparator.reverseOrder()).toList()) {
                Files.delete(path);
            }
        }
    }

    private void constants(String readme) {
        Set<String> found = new TreeSet<>();
        Matcher constant = CONSTANT.matcher(readme);
        while (constant.find()) {
            found.add(constant.group(1));
            check.same(constant.group(1), Integer.parseInt(constant.group(2)),
                CONSTANTS.getOrDefault(constant.group(1), 0));
        }
        check.that("told are " + found, found.equals(CONSTANTS.keySet()));
    }

    private void tests(String readme) throws IOException {
        check.that("the command stands in a line of its own", readme.contains("\n    .ci/run\n"));
        check.that(".ci/run can be run", Files.isExecutable(Path.of(".ci/run")));
        Set<String> told = new TreeSet<>();
        Matcher test = TEST.matcher(readme);
        while (test.find()) {
            told.add(test.group(1));
        }
        told.remove("test");
        Set<String> there = new TreeSet<>();
        try (Stream<Path> files = Files.list(TESTS)) {
            files.map(file -> file.getFileName().toString()).filter(name -> name.endsWith("Test.java"))
                .forEach(name -> there.add(name.replace(".java", "")));
        }
        check.that("told are " + told + ", there are " + there, told.equals(there));
    }
}
