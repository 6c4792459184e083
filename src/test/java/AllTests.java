import java.nio.file.Path;

/** Runs every test of the project; ends with exit code 1 if one fails. */
public final class AllTests {
    private AllTests() {
    }

    public static void main(String[] arguments) throws Exception {
        Path root = Path.of(arguments.length > 0 ? arguments[0] : ".");
        Checks checks = new Checks();
        Path file = root.resolve("src/main/java/Suffixhall.java");
        Source source = Source.read(file);
        FaceTests.check(checks, file);
        LanguageTests.check(checks, source);
        CallDepthTests.check(checks, source);
        ReadmeTests.check(checks, root);
        RunFiles.check(checks, root.resolve("src/test/runs"));
        Edges.check(checks, root.resolve("src/test/edges"), root.resolve("../shared/DOC.md"));
        LimitTests.check(checks);
        FullViews.check(checks, 24);
        RandomRuns.check(checks, 1500);
        System.out.println(checks.passed() + " passed, " + checks.failed() + " failed");
        if (checks.failed() > 0) {
            System.exit(1);
        }
    }
}
