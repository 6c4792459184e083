import java.io.IOException;
import java.lang.reflect.Method;
import java.lang.reflect.Modifier;
import java.nio.file.Files;
import java.nio.file.Path;
import java.util.ArrayList;
import java.util.LinkedHashMap;
import java.util.List;
import java.util.Map;
import java.util.regex.Matcher;
import java.util.regex.Pattern;

/**
 * Each run of src/test/edges names in its comments the words of the document that it holds the class to:
 * '# Promise 2: "Throws `IllegalStateException` if it has 20"', or '# Rows: "at most 20"' for the terms. Those words
 * must stand there, and no words of the terms and promises may be left that no run names. For each exception that a
 * promise lists, the runs that name it must have a call that throws it and one that doesn't; for each two of them a run
 * '# Promise 4: UnsupportedOperationException ahead of IllegalStateException' must throw the first and the second one.
 */
final class Edges {
    private static final Pattern WORDS = Pattern.compile("# (Promise \\d+|[A-Z][A-Za-z ]*): \"(.*)\"");
    private static final Pattern AHEAD = Pattern.compile("# Promise (\\d+): (\\w+Exception) ahead of (\\w+Exception)");
    private static final Pattern PROMISE = Pattern.compile("## (Promise \\d+): (.*)");
    private static final Pattern TERM = Pattern.compile("([A-Z][a-z]+)\\. (.*)");
    private static final Pattern SIGNATURE = Pattern.compile("`[^`]*\\)[^`]*`: ");

    private final Checks checks;
    private final List<Run> runs;
    private final Map<String, StringBuilder> sections = new LinkedHashMap<>();
    private final Map<String, String> methods = new LinkedHashMap<>();
    private final Map<String, boolean[]> named = new LinkedHashMap<>();

    private Edges(Checks checks, List<Run> runs, Path document) throws IOException {
        this.checks = checks;
        this.runs = runs;
        readDocument(Files.readAllLines(document));
        sections.forEach((section, text) -> named.put(section, new boolean[text.length()]));
    }

    static void check(Checks checks, Path folder, Path document) throws IOException {
        List<Run> runs = Run.readAll(folder);
        for (Run run : runs) {
            run.check(checks);
            Unchanged.check(checks, run);
        }
        if (!Files.exists(document)) {
            System.out.println("the words of the edges are not compared: there is no " + document);
            return;
        }
        Edges edges = new Edges(checks, runs, document);
        edges.checkWords();
        edges.checkAllNamed();
        edges.checkExceptions();
    }

    /**
     * Takes the text of the terms, by the word that each begins with, that of the promises, without the signatures, and
     * the sentence on how many calls an object is used for, as Use.
     */
    private void readDocument(List<String> lines) {
        boolean areTerms = false;
        String name = "";
        for (String line : lines) {
            Matcher promise = PROMISE.matcher(line);
            Matcher term = TERM.matcher(line);
            String rest = SIGNATURE.matcher(line).replaceFirst("");
            if (promise.matches()) {
                name = promise.group(1);
                methods.put(name, promise.group(2));
                rest = "";
            } else if (line.startsWith("## ") || line.startsWith("<p>")) {
                areTerms = line.equals("## Terms");
                name = "";
            } else if (line.startsWith("An object is used for")) {
                name = "Use";
            } else if (areTerms && term.matches()) {
                name = term.group(1);
                rest = term.group(2);
            }
            if (!name.isEmpty()) {
                sections.computeIfAbsent(name, key -> new StringBuilder()).append(rest).append(' ');
            }
        }
        sections.replaceAll((key, text) -> new StringBuilder(text.toString().replaceAll("\\s+", " ")));
    }

    private void checkWords() {
        for (Run run : runs) {
            int found = 0;
            for (String comment : run.comments) {
                Matcher words = WORDS.matcher(comment);
                if (words.matches()) {
                    found++;
                    checks.isTrue(run.where + " the document says " + comment, name(words.group(1), words.group(2)));
                }
                found += AHEAD.matcher(comment).matches() ? 1 : 0;
            }
            checks.isTrue(run.where + " names words of the document", found > 0);
        }
    }

    private boolean name(String section, String words) {
        StringBuilder text = sections.get(section);
        int at = text == null ? -1 : text.indexOf(words);
        for (int from = at; from >= 0; from = text.indexOf(words, from + 1)) {
            for (int i = 0; i < words.length(); i++) {
                named.get(section)[from + i] = true;
            }
        }
        return at >= 0;
    }

    private void checkAllNamed() {
        checks.same("terms and promises", "61", String.valueOf(sections.size()));
        sections.forEach((section, text) -> {
            StringBuilder left = new StringBuilder();
            for (int i = 0; i < text.length(); i++) {
                left.append(named.get(section)[i] ? '_' : text.charAt(i));
            }
            checks.same(section + ", words that no run names", "", left.toString().replaceAll("[_\\s.,;:-]+", " ").strip());
        });
    }

    private void checkExceptions() {
        for (Method method : Suffixhall.class.getDeclaredMethods()) {
            if (Modifier.isPublic(method.getModifiers())) {
                checkExceptions(method.getName(), method.getExceptionTypes());
            }
        }
    }

    private void checkExceptions(String method, Class<?>[] exceptions) {
        String promise = "";
        for (Map.Entry<String, String> entry : methods.entrySet()) {
            promise = entry.getValue().equals(method) ? entry.getKey() : promise;
        }
        for (int i = 0; i < exceptions.length; i++) {
            String name = exceptions[i].getSimpleName();
            List<Run> naming = runsNaming("# " + promise + ": \"Throws `" + name);
            checks.isTrue(promise + " throws " + name, answers(naming, method, "throws." + name));
            checks.isTrue(promise + " just does not throw " + name, answers(naming, method, "[^t].*|true"));
            for (int j = i + 1; j < exceptions.length; j++) {
                String other = exceptions[j].getSimpleName();
                List<Run> ordering = runsNaming("# " + promise + ": " + name + " ahead of " + other);
                checks.isTrue(promise + " throws " + name + " ahead of " + other,
                    answers(ordering, method, "throws." + name) && answers(ordering, method, "throws." + other));
            }
        }
    }

    private List<Run> runsNaming(String words) {
        List<Run> found = new ArrayList<>();
        for (Run run : runs) {
            if (run.comments.stream().anyMatch(comment -> comment.startsWith(words))) {
                found.add(run);
            }
        }
        return found;
    }

    private static boolean answers(List<Run> some, String method, String answer) {
        for (Run run : some) {
            for (Run.Call call : run.calls) {
                if (call.name.equals(method) && call.due != null && call.due.matches(answer)) {
                    return true;
                }
            }
        }
        return false;
    }
}
