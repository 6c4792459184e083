import java.io.IOException;
import java.lang.reflect.Method;
import java.lang.reflect.Modifier;
import java.nio.file.Files;
import java.nio.file.Path;
import java.util.ArrayList;
import java.util.HashMap;
import java.util.List;
import java.util.Map;
import java.util.regex.Matcher;
import java.util.regex.Pattern;
import java.util.stream.Collectors;
import java.util.stream.Stream;

/**
 * Calls on one new object, as a file tells them in the document's own way of writing: call(..) = answer; and so on. An
 * empty line begins a new run, '#' a comment. more("..") types signs, write("..") wipes the row before, text("..") does
 * so and adds them as a document, n * call(..) = answer; makes the call n times, each with that answer, and a line that
 * begins with "n times:" is gone through n times. A letter that can't be seen is written by its number: (char) 0.
 */
final class Run {
    static final int MOST_CALLS = 512;
    private static final Pattern CALL = Pattern.compile(
        "\\s*(?:(\\d+) \\* )?(\\w+)\\(((?:\\(char\\) |'.'|\"[^\"]*\"|[^()'\"])*)\\)(?: = (\\S+))?\\s*");
    private static final Pattern REPEATED = Pattern.compile("(\\d+) times: (.*)");
    private static final Map<String, Method> METHODS = methodsOf(Suffixhall.class);

    /** A call with the answer that is due; null if it is only not to throw. */
    static final class Call {
        final String where;
        final String told;
        final String name;
        final String due;
        private final Object[] values;

        Call(String where, String told, String name, Object[] values, String due) {
            this.where = where;
            this.told = told;
            this.name = name;
            this.values = values;
            this.due = due;
        }

        boolean isThrowing() {
            return due != null && due.startsWith("throws.");
        }

        String answerOf(Object hall, Map<String, Method> methods) {
            return Checks.answerOf(() -> methods.get(name).invoke(hall, values));
        }

        String answerOf(Suffixhall hall) {
            return answerOf(hall, METHODS);
        }
    }

    final String where;
    final List<String> comments = new ArrayList<>();
    final List<Call> calls = new ArrayList<>();
    private final List<String> faults = new ArrayList<>();

    private Run(String where) {
        this.where = where;
    }

    static Map<String, Method> methodsOf(Class<?> owner) {
        Map<String, Method> found = new HashMap<>();
        for (Method method : owner.getDeclaredMethods()) {
            if (Modifier.isPublic(method.getModifiers())) {
                method.setAccessible(true);
                found.put(method.getName(), method);
            }
        }
        return found;
    }

    static List<Run> readAll(Path folder) throws IOException {
        List<Path> files;
        try (Stream<Path> all = Files.list(folder)) {
            files = all.sorted().collect(Collectors.toList());
        }
        List<Run> runs = new ArrayList<>();
        for (Path file : files) {
            runs.addAll(read(file));
        }
        return runs;
    }

    static List<Run> read(Path file) throws IOException {
        return read(file.getFileName().toString(), Files.readAllLines(file));
    }

    static List<Run> read(String name, List<String> lines) {
        List<Run> runs = new ArrayList<>();
        Run run = null;
        int number = 0;
        for (String line : lines) {
            number++;
            String here = name + ":" + number;
            if (line.isBlank()) {
                run = null;
                continue;
            }
            if (run == null) {
                run = new Run(here);
                runs.add(run);
            }
            if (line.startsWith("#")) {
                run.comments.add(line);
            } else {
                run.takeLine(here, line.strip());
            }
        }
        return runs;
    }

    private void takeLine(String here, String line) {
        Matcher repeated = REPEATED.matcher(line);
        boolean isRepeated = repeated.matches();
        int times = isRepeated ? Integer.parseInt(repeated.group(1)) : 1;
        for (int i = 0; i < times; i++) {
            for (String part : (isRepeated ? repeated.group(2) : line).split("[;.](?:\\s+|$)")) {
                takePart(here, part);
            }
        }
    }

    private void takePart(String here, String part) {
        Matcher call = CALL.matcher(part);
        if (!call.matches()) {
            faults.add(here + " " + part);
            return;
        }
        String name = call.group(2);
        String arguments = call.group(3);
        if (name.equals("more") || name.equals("write") || name.equals("text")) {
            takeRow(here, name, arguments.substring(1, arguments.length() - 1));
            return;
        }
        String told = part.strip();
        Method method = METHODS.get(name);
        if (method == null || call.group(4) == null) {
            faults.add(here + " " + told);
            return;
        }
        int times = call.group(1) == null ? 1 : Integer.parseInt(call.group(1));
        for (int i = 0; i < times; i++) {
            calls.add(new Call(here, told, name, valuesOf(method, arguments), call.group(4)));
        }
    }

    private void takeRow(String here, String how, String signs) {
        if (!how.equals("more")) {
            calls.add(new Call(here, "wipe()", "wipe", new Object[0], null));
        }
        for (char sign : signs.toCharArray()) {
            calls.add(new Call(here, "type('" + sign + "')", "type", new Object[] {sign}, null));
        }
        if (how.equals("text")) {
            calls.add(new Call(here, "add()", "add", new Object[0], null));
        }
    }

    private static Object[] valuesOf(Method method, String arguments) {
        List<Object> values = new ArrayList<>();
        Class<?>[] types = method.getParameterTypes();
        String[] parts = arguments.isEmpty() ? new String[0] : arguments.split(", ");
        for (int i = 0; i < parts.length; i++) {
            if (types[i] == char.class) {
                values.add(parts[i].startsWith("(char) ") ? (char) Integer.parseInt(parts[i].substring(7))
                    : parts[i].charAt(1));
            } else if (types[i] == boolean.class) {
                values.add(Boolean.valueOf(parts[i]));
            } else {
                values.add(Integer.valueOf(parts[i]));
            }
        }
        return values.toArray();
    }

    /** Makes the calls on a new object of the class, and of its second writing. */
    void check(Checks checks) {
        for (String fault : faults) {
            checks.same(fault, "a call of the face with an answer", "none");
        }
        checks.isTrue(where + " has " + MOST_CALLS + " calls at most", calls.size() <= MOST_CALLS);
        Suffixhall hall = new Suffixhall();
        for (Call call : calls) {
            checkAnswer(checks, call, call.answerOf(hall));
        }
        Naive naive = new Naive();
        Map<String, Method> methods = methodsOf(Naive.class);
        for (Call call : calls) {
            if (!methods.containsKey(call.name)) {
                checks.same(call.where + " " + call.told, "a method of the second writing", "none");
                return;
            }
            checkAnswer(checks, call, call.answerOf(naive, methods));
        }
    }

    static void checkAnswer(Checks checks, Call call, String answer) {
        if (call.due != null) {
            checks.same(call.where + " " + call.told, call.due, answer);
        } else {
            checks.isTrue(call.where + " " + call.told + " answered " + answer, !answer.startsWith("throws."));
        }
    }
}
