import java.nio.file.Path;

/** Runs every test of the project; ends with exit code 1 if one fails. */
public final class AllTests {
    private AllTests() {
    }

    public static void main(String[] arguments) throws Exception {
        Path root = Path.of(arguments.length > 0 ? arguments[0] : ".");
        Checks checks = new Checks();
        FaceTests.check(checks, root.resolve("src/main/java/Suffixhall.java"));
        CallDepthTests.check(checks, root.resolve("src/main/java/Suffixhall.java"));
        RunFiles.check(checks, root.resolve("src/test/runs"));
        Edges.check(checks, root.resolve("src/test/edges"), root.resolve("../shared/DOC.md"));
        LimitTests.check(checks);
        FullViews.check(checks, 24);
        RandomRuns.check(checks, 1500);
        System.out.println(checks.passed() + " passed, " + checks.failed() + " failed");
        if (checks.failed() > 0) {
            System.exit(1);
        }
    }
}
