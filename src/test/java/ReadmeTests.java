import com.sun.source.util.JavacTask;
import java.io.IOException;
import java.lang.reflect.Method;
import java.lang.reflect.Modifier;
import java.net.URI;
import java.nio.file.Files;
import java.nio.file.Path;
import java.util.ArrayList;
import java.util.List;
import java.util.regex.Matcher;
import java.util.regex.Pattern;
import java.util.stream.Collectors;
import java.util.stream.Stream;
import javax.tools.DiagnosticCollector;
import javax.tools.JavaCompiler;
import javax.tools.JavaFileObject;
import javax.tools.SimpleJavaFileObject;
import javax.tools.StandardJavaFileManager;
import javax.tools.ToolProvider;

/** README.md is there, says how to use the class and how to run its tests, and what it says holds. */
final class ReadmeTests {
    private static final Pattern EXAMPLE = Pattern.compile("(?s)```java\n(.*?)```");
    private static final Pattern ANSWERED =
        Pattern.compile("hall\\.(\\w+\\(.*\\)); +// (throws )?([\\w$-]+)(?:: .*)?");
    private static final Pattern NAMED = Pattern.compile("`([^`\\s]+)`");
    private static final String MADE = "Suffixhall hall = new Suffixhall();";

    private final Checks checks;
    private final Path root;
    private final String text;

    private ReadmeTests(Checks checks, Path root, String text) {
        this.checks = checks;
        this.root = root;
        this.text = text;
    }

    static void check(Checks checks, Path root) throws IOException {
        Path file = root.resolve("README.md");
        checks.isTrue("README.md is there", Files.isRegularFile(file));
        if (Files.isRegularFile(file)) {
            ReadmeTests all = new ReadmeTests(checks, root, Files.readString(file));
            all.checkUse();
            all.checkTests();
            all.checkNames();
        }
    }

    /** The words under a heading, up to the next one. */
    private String section(String heading) {
        int begin = text.indexOf("\n## " + heading + "\n");
        checks.isTrue("README.md has a heading " + heading, begin >= 0);
        int end = text.indexOf("\n## ", begin + 1);
        return begin < 0 ? "" : text.substring(begin, end < 0 ? text.length() : end);
    }

    private void checkUse() throws IOException {
        String use = section("Use");
        int examples = 0;
        for (Matcher example = EXAMPLE.matcher(use); example.find();) {
            examples++;
            checkExample(examples, example.group(1));
        }
        checks.isTrue("README.md has examples of use", examples > 0);
        for (Method method : Suffixhall.class.getDeclaredMethods()) {
            if (Modifier.isPublic(method.getModifiers())) {
                checks.isTrue("README.md names the call " + method.getName(), use.contains("`" + method.getName() + "`"));
            }
        }
    }

    private void checkExample(int number, String code) throws IOException {
        String where = "README.md, example " + number;
        checks.isTrue(where + " compiles", compiles(code));
        List<String> told = new ArrayList<>();
        List<String> lines = code.lines().collect(Collectors.toList());
        checks.same(where + " begins", MADE, lines.get(0));
        for (String line : lines.subList(1, lines.size())) {
            Matcher call = ANSWERED.matcher(line);
            boolean isAnswered = call.matches();
            checks.isTrue(where + " tells an answer: " + line, isAnswered);
            if (isAnswered) {
                told.add(call.group(1) + " = " + (call.group(2) == null ? "" : "throws.") + call.group(3) + ";");
            }
        }
        for (Run run : Run.read(where, told)) {
            run.check(checks);
        }
    }

    private static boolean compiles(String code) throws IOException {
        JavaFileObject file = new SimpleJavaFileObject(URI.create("string:///Use.java"), JavaFileObject.Kind.SOURCE) {
            @Override
            public CharSequence getCharContent(boolean ignoreErrors) {
                return "class Use { void use() {\n" + code + "} }";
            }
        };
        List<String> options = List.of("-proc:none", "-cp", System.getProperty("java.class.path"));
        DiagnosticCollector<JavaFileObject> faults = new DiagnosticCollector<>();
        JavaCompiler compiler = ToolProvider.getSystemJavaCompiler();
        try (StandardJavaFileManager files = compiler.getStandardFileManager(null, null, null)) {
            ((JavacTask) compiler.getTask(null, files, faults, options, null, List.of(file))).analyze();
        }
        return faults.getDiagnostics().isEmpty();
    }

    /** What README.md tells to run is .ci/run, and that runs what README.md says it does. */
    private void checkTests() throws IOException {
        List<String> commands = section("Tests").lines().filter(line -> line.startsWith("    "))
            .map(String::strip).collect(Collectors.toList());
        checks.same("what README.md tells to run", "[bash .ci/run]", commands.toString());
        Path script = root.resolve(".ci/run");
        checks.isTrue(".ci/run can be run", Files.isExecutable(script));
        String run = Files.readString(script);
        checks.isTrue(".ci/run runs the tests of the project", run.contains("AllTests . || failed=1"));
        checks.isTrue(".ci/run runs those under ../shared/tests", run.contains("shared_tests=../shared/tests"));
        checks.isTrue(".ci/run compiles with all warnings", run.contains("-Xlint:all -Werror"));
        String tests = Files.readString(root.resolve("src/test/java/AllTests.java"));
        for (Path file : filesIn("src/test/java")) {
            String name = file.getFileName().toString().replace(".java", "");
            boolean isTest = Files.readString(file).contains("    static void check(Checks checks")
                && !name.equals("Unchanged");
            checks.isTrue("AllTests runs " + name, !isTest || tests.contains(" " + name + ".check("));
        }
    }

    private List<Path> filesIn(String folder) throws IOException {
        try (Stream<Path> all = Files.list(root.resolve(folder))) {
            return all.sorted().collect(Collectors.toList());
        }
    }

    private void checkNames() throws IOException {
        for (Matcher named = NAMED.matcher(text); named.find();) {
            boolean isPath = named.group(1).contains("/");
            checks.isTrue("README.md names what is there: " + named.group(1),
                !isPath || Files.exists(root.resolve(named.group(1))));
        }
        List<Path> all = filesIn("src/test");
        all.addAll(filesIn("src/test/java"));
        for (Path file : all) {
            String name = root.relativize(file).toString();
            checks.isTrue("README.md names " + name, name.equals("src/test/java") || text.contains("`" + name + "`"));
        }
    }
}
