import java.io.IOException;
import java.lang.reflect.Method;
import java.nio.file.Files;
import java.nio.file.Path;
import java.util.ArrayList;
import java.util.HashMap;
import java.util.List;
import java.util.Map;
import java.util.regex.Matcher;
import java.util.regex.Pattern;
import java.util.stream.Collectors;
import java.util.stream.Stream;

/**
 * Runs of calls that stand in files as the document writes them: call(..) = answer; and so on. An empty line begins
 * a new object, '#' a comment. write("..") wipes the row and types its signs, text("..") does so and adds them as a
 * document, n * call(..) = answer; makes the call n times, each with that answer.
 */
final class RunFiles {
    private static final Pattern CALL =
        Pattern.compile("\\s*(?:(\\d+) \\* )?(\\w+)\\(((?:'.'|\"[^\"]*\"|[^)'\"])*)\\)(?: = (\\S+))?\\s*");
    private static final Map<String, Method> METHODS = methods();

    private RunFiles() {
    }

    private static Map<String, Method> methods() {
        Map<String, Method> found = new HashMap<>();
        for (Method method : Suffixhall.class.getDeclaredMethods()) {
            if (java.lang.reflect.Modifier.isPublic(method.getModifiers())) {
                found.put(method.getName(), method);
            }
        }
        return found;
    }

    static void check(Checks checks, Path folder) throws IOException {
        List<Path> files;
        try (Stream<Path> all = Files.list(folder)) {
            files = all.sorted().collect(Collectors.toList());
        }
        for (Path file : files) {
            checkFile(checks, file);
        }
    }

    private static void checkFile(Checks checks, Path file) throws IOException {
        Suffixhall hall = new Suffixhall();
        int number = 0;
        for (String line : Files.readAllLines(file)) {
            number++;
            if (line.isBlank()) {
                hall = new Suffixhall();
            } else if (!line.startsWith("#")) {
                checkLine(checks, hall, file.getFileName() + ":" + number, line);
            }
        }
    }

    private static void checkLine(Checks checks, Suffixhall hall, String where, String line) {
        String rest = line.strip();
        for (String part : rest.split("[;.](?:\\s+|$)")) {
            Matcher call = CALL.matcher(part);
            if (!call.matches()) {
                checks.same(where + " " + part, "a call", "no call");
                continue;
            }
            int times = call.group(1) == null ? 1 : Integer.parseInt(call.group(1));
            for (int i = 0; i < times; i++) {
                checkCall(checks, hall, where, call);
            }
        }
    }

    private static void checkCall(Checks checks, Suffixhall hall, String where, Matcher call) {
        String name = call.group(2);
        String arguments = call.group(3);
        if (name.equals("write") || name.equals("text")) {
            hall.wipe();
            for (char sign : arguments.substring(1, arguments.length() - 1).toCharArray()) {
                hall.type(sign);
            }
            if (name.equals("text")) {
                hall.add();
            }
            return;
        }
        Method method = METHODS.get(name);
        String told = where + " " + call.group().strip();
        if (method == null || call.group(4) == null) {
            checks.same(told, "a call of the face with an answer", "none");
            return;
        }
        Object[] values = valuesOf(method, arguments);
        checks.due(told, call.group(4), () -> method.invoke(hall, values));
    }

    private static Object[] valuesOf(Method method, String arguments) {
        List<Object> values = new ArrayList<>();
        Class<?>[] types = method.getParameterTypes();
        String[] parts = arguments.isEmpty() ? new String[0] : arguments.split(", ");
        for (int i = 0; i < parts.length; i++) {
            if (types[i] == char.class) {
                values.add(parts[i].charAt(1));
            } else if (types[i] == boolean.class) {
                values.add(Boolean.valueOf(parts[i]));
            } else {
                values.add(Integer.valueOf(parts[i]));
            }
        }
        return values.toArray();
    }
}
