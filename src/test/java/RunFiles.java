import java.io.IOException;
import java.nio.file.Path;

/** Runs of calls in files, each with the answer that is due; none of the calls that throw may change anything. */
final class RunFiles {
    private RunFiles() {
    }

    static void check(Checks checks, Path folder) throws IOException {
        for (Run run : Run.readAll(folder)) {
            run.check(checks);
            Unchanged.check(checks, run);
        }
    }
}
