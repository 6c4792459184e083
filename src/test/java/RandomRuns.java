import java.lang.reflect.Method;
import java.util.ArrayList;
import java.util.Arrays;
import java.util.Comparator;
import java.util.HashMap;
import java.util.List;
import java.util.Map;

/** Runs of 512 calls that are drawn from a fixed row of numbers, each answer compared with that of Naive. */
final class RandomRuns {
    private static final int CALLS = 512;
    private static final String[] REGULARS = {
        "a", "ab*", "(a|b)*", "a(ab|b)*a", ".*", "(a*b*)*", "((a)*)*b", "(.b)*|c", "a|b|ab", "b*a.", "(a*)*",
        "a**", "*a", "()", "(|a)", "a|", "|a", "((a)", "a)", "(a(b(c|a)*)*)*", "((((((((((((((((((((", "a~", "a(b|)c",
    };

    private final Checks checks;
    private final Map<String, Method> mine = new HashMap<>();
    private final List<Method> methods = new ArrayList<>();
    private long seed;
    private int kinds;
    private Suffixhall hall;
    private Naive naive;
    private StringBuilder told;
    private int calls;

    RandomRuns(Checks checks) {
        this.checks = checks;
        for (Method method : Suffixhall.class.getDeclaredMethods()) {
            if (java.lang.reflect.Modifier.isPublic(method.getModifiers())) {
                mine.put(method.getName(), method);
            }
        }
        for (Method method : Naive.class.getDeclaredMethods()) {
            if (java.lang.reflect.Modifier.isPublic(method.getModifiers())) {
                methods.add(method);
            }
        }
        methods.sort(Comparator.comparing(Method::getName));
    }

    static void check(Checks checks, int runs) {
        RandomRuns all = new RandomRuns(checks);
        for (int run = 0; run < runs; run++) {
            checks.same("random run " + run, "as due", all.run(run));
        }
    }

    private String run(int number) {
        seed = 88172645463325252L + number * 7919L;
        kinds = 1 + number % 5;
        hall = new Suffixhall();
        naive = new Naive();
        told = new StringBuilder();
        for (calls = 0; calls < CALLS;) {
            String wrong = step(number % 3);
            if (wrong != null) {
                return wrong + " after " + told;
            }
        }
        return "as due";
    }

    private int draw(int bound) {
        seed ^= seed << 13;
        seed ^= seed >>> 7;
        seed ^= seed << 17;
        return (int) Math.floorMod(seed >>> 8, (long) bound);
    }

    private String step(int mood) {
        int what = draw(100);
        int growing = mood == 0 ? 30 : mood == 1 ? 12 : 20;
        if (what < growing) {
            return grow();
        }
        if (what < growing + 6) {
            return write(rowOf());
        }
        if (what < growing + 10) {
            return call("tidy");
        }
        if (what < growing + 14) {
            return call("cut", drawDocument(), draw(5) - 1, draw(5));
        }
        if (what < growing + 16) {
            return call("snapshot");
        }
        if (what < growing + 18) {
            return call(draw(4) == 0 ? "crash" : draw(3) == 0 ? "keep" : "learn");
        }
        Method method = methods.get(draw(methods.size()));
        boolean isRare = method.getName().equals("crash") || method.getName().equals("wipe")
            || method.getName().equals("remove") && mood == 0;
        return isRare && draw(4) != 0 ? null : call(method.getName(), argumentsFor(method));
    }

    private String grow() {
        StringBuilder letters = new StringBuilder();
        int size = 1 + draw(draw(3) == 0 ? 14 : 4);
        for (int i = 0; i < size; i++) {
            letters.append((char) ('a' + draw(kinds)));
        }
        String wrong = write(letters.toString());
        if (wrong != null) {
            return wrong;
        }
        return draw(3) == 0 ? call("insert", drawDocument(), draw(6)) : call("add");
    }

    private String rowOf() {
        int sort = draw(4);
        if (sort == 0) {
            return REGULARS[draw(REGULARS.length)];
        }
        String signs = sort == 1 ? "abab.~" : sort == 2 ? "aabbc" : "ab(()|*.)";
        StringBuilder row = new StringBuilder();
        int size = 1 + draw(sort == 3 ? 9 : 5);
        for (int i = 0; i < size; i++) {
            row.append(signs.charAt(draw(signs.length())));
        }
        return row.toString();
    }

    private String write(String row) {
        String wrong = call("wipe");
        for (int i = 0; i < row.length() && wrong == null; i++) {
            wrong = call("type", row.charAt(i));
        }
        return wrong;
    }

    private int drawDocument() {
        for (int i = 0; i < 8; i++) {
            int document = draw(42) - 1;
            if (hall.has(-1, document)) {
                return document;
            }
        }
        return draw(42) - 1;
    }

    private Object[] argumentsFor(Method method) {
        Class<?>[] types = method.getParameterTypes();
        Object[] values = new Object[types.length];
        for (int i = 0; i < types.length; i++) {
            if (types[i] == boolean.class) {
                values[i] = draw(2) == 0;
            } else if (types[i] == char.class) {
                String signs = method.getName().equals("near") ? "setx" : method.getName().equals("type") ? "ab.~()|*x"
                    : "abcde$dplfplfx";
                values[i] = signs.charAt(draw(signs.length()));
            } else {
                values[i] = numberFor(method.getName(), i);
            }
        }
        return values;
    }

    private int numberFor(String name, int index) {
        boolean isChange = name.equals("insert") || name.equals("cut") || name.equals("remove");
        if (draw(60) == 0) {
            return new int[] {Integer.MIN_VALUE, Integer.MAX_VALUE, -2, 999, 1000, 40}[draw(6)];
        }
        if (index == 0 && !isChange && !name.equals("drop") && !name.equals("segmentOf") && !name.equals("dead")) {
            return draw(3) != 0 ? -1 : draw(20) - 1;
        }
        boolean isDocument = name.equals("distance") || name.equals("pieces") || index == 0
            || index == 1 && (name.endsWith("Of") || name.endsWith("At") || name.startsWith("p") || name.equals("rules")
            || name.equals("unique") || name.equals("squares") || name.equals("has"));
        if (isDocument && !name.equals("suffixAt") && !name.equals("countOf") && !name.equals("dead")
            && !name.equals("drop")) {
            return drawDocument();
        }
        if (name.equals("near") || name.equals("palindromes") || name.equals("common")) {
            return draw(5) - 1;
        }
        boolean isRank = name.equals("suffixAt") || name.equals("turned") || name.equals("ahead");
        return draw(isRank ? 60 : 10) - 1;
    }

    private String call(String name, Object... arguments) {
        if (calls >= CALLS) {
            return null;
        }
        calls++;
        Method due = methods.stream().filter(method -> method.getName().equals(name)).findFirst().get();
        String want = Checks.answerOf(() -> due.invoke(naive, arguments));
        String got = Checks.answerOf(() -> mine.get(name).invoke(hall, arguments));
        told.append(name).append(Arrays.toString(arguments)).append(" = ").append(got).append("; ");
        return want.equals(got) ? null : name + Arrays.toString(arguments) + " = " + got + ", due is " + want;
    }
}
