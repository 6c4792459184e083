import java.lang.reflect.Method;
import java.lang.reflect.Modifier;
import java.util.HashMap;
import java.util.Map;

/** Runs of 512 calls that are drawn from a fixed row of numbers, each answer compared with that of Naive. */
final class RandomRuns {
    private static final int CALLS = 512;
    private static final int[] ODD_NUMBERS = {Integer.MIN_VALUE, Integer.MAX_VALUE, -2, 0, 40, 999, 1000};

    /**
     * The calls that change something, then those that only answer, each with the kinds of its arguments: v view,
     * d document, p place, r rank, n small number, l letter, k kind of error, w what, i a boolean; and at last the
     * row that it asks for: P plain, S simple, R regular.
     */
    private static final String[] CHANGES = {
        "insert dp P", "cut dpn -", "remove d -", "snapshot - -", "drop v -", "keep - -", "crash - -", "tidy - -",
        "tidy - -", "tidy - -", "learn - P", "wipe - -", "type l -",
    };
    private static final String[] QUESTIONS = {
        "documents v -", "has vd -", "lengthOf vd -", "letterAt vdp -", "suffixAt vrw -", "rankOf vdp -", "turned vr -",
        "runs v -", "ahead vlr -", "interval vni P", "count v S", "found vni S", "having v S", "top vn S",
        "limited vn S", "near vnk P", "matches v R", "countOf vn -", "longestAt vdp -", "longestRepeat v -",
        "maximal v -", "common vn -", "unique vd -", "squares vd -", "palindromes vdn -", "phrases vd -",
        "phraseAt vdpw -", "pieces vdd -", "rules vdi -", "distance vdd -", "segments - -", "segmentOf d -", "dead n -",
        "cost i P", "checksum v -", "runShare v -", "meanCommon v -", "isSound - -",
    };
    private static final String[] REGULARS = {
        "a", "ab*", "(a|b)*", "a(ab|b)*a", ".*", "(a*b*)*", "((a)*)*b", "(.b)*|c", "a|b|ab", "b*a.", "(a*)*",
        "a**", "*a", "()", "(|a)", "a|", "|a", "((a)", "a)", "(a(b(c|a)*)*)*", "((((((((((((((((((((", "a~", "a(b|)c",
    };

    private final Map<String, Method> mine = methodsOf(Suffixhall.class);
    private final Map<String, Method> due = methodsOf(Naive.class);
    private final long start;
    private final int number;
    private long seed;
    private int kinds;
    private Suffixhall hall;
    private Naive naive;
    private StringBuilder told;
    private String wrong;
    private int calls;

    private RandomRuns(int number) {
        this.number = number;
        start = 88172645463325252L + number * 7919L;
    }

    static void check(Checks checks, int runs) {
        for (int run = 0; run < runs; run++) {
            checks.same("random run " + run, "as due", new RandomRuns(run).run());
        }
    }

    private static Map<String, Method> methodsOf(Class<?> owner) {
        Map<String, Method> methods = new HashMap<>();
        for (Method method : owner.getDeclaredMethods()) {
            if (Modifier.isPublic(method.getModifiers())) {
                methods.put(method.getName(), method);
            }
        }
        return methods;
    }

    private String run() {
        seed = start;
        kinds = 1 + number % 5;
        hall = new Suffixhall();
        naive = new Naive();
        told = new StringBuilder();
        int documents = 1 + draw(14);
        int biggest = 2 + draw(draw(4) == 0 ? 19 : 6);
        while (calls < CALLS && wrong == null) {
            int what = draw(10);
            if (what < 2 && (hall.documents(-1) < documents || draw(6) == 0)) {
                write(letters(1 + draw(biggest)));
                call(draw(4) == 0 ? "insert " + document() + " " + place() : "add");
            } else if (what < 4) {
                drawn(CHANGES[draw(CHANGES.length)]);
            } else {
                drawn(QUESTIONS[draw(QUESTIONS.length)]);
            }
        }
        return wrong == null ? "as due" : wrong + " after " + told;
    }

    private int draw(int bound) {
        seed ^= seed << 13;
        seed ^= seed >>> 7;
        seed ^= seed << 17;
        return (int) Math.floorMod(seed >>> 8, (long) bound);
    }

    private void drawn(String call) {
        String[] parts = call.split(" ");
        boolean isRare = call.startsWith("crash") || call.startsWith("remove") && hall.documents(-1) < 5;
        if (isRare && draw(5) != 0) {
            return;
        }
        if (!parts[2].equals("-") && draw(5) != 0) {
            write(rowOf(draw(12) == 0 ? "PSR".charAt(draw(3)) : parts[2].charAt(0)));
        }
        StringBuilder drawn = new StringBuilder(parts[0]);
        for (char kind : parts[1].equals("-") ? new char[0] : parts[1].toCharArray()) {
            drawn.append(' ').append(argument(kind));
        }
        call(drawn.toString());
    }

    private String argument(char kind) {
        switch (kind) {
            case 'v':
                return String.valueOf(draw(20) == 0 ? oddNumber() : view());
            case 'd':
                return String.valueOf(draw(20) == 0 ? oddNumber() : document());
            case 'p':
                return String.valueOf(draw(30) == 0 ? oddNumber() : place());
            case 'r':
                return String.valueOf(draw(30) == 0 ? oddNumber() : draw(70) - 1);
            case 'n':
                return String.valueOf(draw(30) == 0 ? oddNumber() : draw(6) - 1);
            case 'i':
                return String.valueOf(draw(2) == 0);
            default:
                String signs = kind == 'l' ? "abcde$.f" : kind == 'k' ? "seetttx" : "dplfplfx";
                return String.valueOf(signs.charAt(draw(signs.length())));
        }
    }

    private int oddNumber() {
        return ODD_NUMBERS[draw(ODD_NUMBERS.length)];
    }

    private int view() {
        int view = draw(2) == 0 ? -1 : draw(20);
        for (int i = 0; i < 30 && "throws".equals(answer(hall, mine, "documents " + view).split("\\.")[0]); i++) {
            view = draw(21) - 1;
        }
        return view;
    }

    private int document() {
        int document = draw(12);
        for (int i = 0; i < 40 && !hall.has(-1, document); i++) {
            document = draw(41);
        }
        return document;
    }

    private int place() {
        return draw(3) == 0 ? draw(12) : draw(4);
    }

    private String letters(int size) {
        StringBuilder letters = new StringBuilder();
        for (int i = 0; i < size; i++) {
            letters.append((char) ('a' + draw(kinds)));
        }
        return letters.toString();
    }

    private String rowOf(char sort) {
        if (sort == 'P') {
            return letters(1 + draw(draw(3) == 0 ? 9 : 3));
        }
        if (sort == 'R' && draw(3) == 0) {
            return REGULARS[draw(REGULARS.length)];
        }
        if (sort == 'R' && draw(4) != 0) {
            String regular = regular(3);
            return regular.length() > 20 ? "(" + letters(2) + ")*" : regular;
        }
        String signs = sort == 'S' ? "abaab.~" : "ab(()|*.)";
        StringBuilder row = new StringBuilder();
        int size = 1 + draw(5);
        for (int i = 0; i < size; i++) {
            row.append(draw(3) == 0 ? letters(1) : signs.substring(draw(signs.length())).substring(0, 1));
        }
        return row.toString();
    }

    private String regular(int depth) {
        StringBuilder row = new StringBuilder();
        int items = 1 + draw(4);
        for (int i = 0; i < items; i++) {
            row.append(depth > 0 && draw(3) == 0 ? "(" + regular(depth - 1) + ")" : draw(6) == 0 ? "." : letters(1));
            row.append(draw(3) == 0 ? "*" : "");
            row.append(i + 1 < items && draw(4) == 0 ? "|" : "");
        }
        return row.toString();
    }

    private void write(String row) {
        call("wipe");
        for (int i = 0; i < row.length(); i++) {
            call("type " + row.charAt(i));
        }
    }

    private static String answer(Object hall, Map<String, Method> methods, String call) {
        String[] parts = call.split(" ");
        Method method = methods.get(parts[0]);
        Object[] values = new Object[parts.length - 1];
        for (int i = 0; i < values.length; i++) {
            Class<?> type = method.getParameterTypes()[i];
            String part = parts[i + 1];
            if (type == int.class) {
                values[i] = Integer.valueOf(part);
            } else if (type == char.class) {
                values[i] = part.charAt(0);
            } else {
                values[i] = Boolean.valueOf(part);
            }
        }
        return Checks.answerOf(() -> method.invoke(hall, values));
    }

    private void call(String call) {
        if (calls >= CALLS || wrong != null) {
            return;
        }
        calls++;
        String want = answer(naive, due, call);
        String got = answer(hall, mine, call);
        told.append(call).append(" = ").append(got).append("; ");
        if (!want.equals(got)) {
            wrong = call + " = " + got + ", due is " + want;
        }
    }
}
