import java.lang.reflect.Method;
import java.lang.reflect.Modifier;

/** Documents with many letters, of which every question is asked with all that can be asked; compared with Naive. */
final class FullViews {
    private static final String[] SIMPLE_ROWS = {"a", "ab", ".", "a~b", "~a", "b~~.", "a.a", "ba~", "..............."};
    private static final String[] PLAIN_ROWS = {"a", "ba", "abb", "abab", "aabba", "abcdeabcde", "aaaaaaaaaaaaaaaaaaaa"};
    private static final String[] REGULAR_ROWS = {"(a|b)*", "a(b|.a)*b", "((a*b)*|c)*a", "a.*b", "(.(a|bb*)*)*"};

    private final Checks checks;
    private final Suffixhall hall = new Suffixhall();
    private final Naive naive = new Naive();
    private long seed;

    private FullViews(Checks checks, int number) {
        this.checks = checks;
        seed = 6364136223846793005L + number * 104729L;
    }

    static void check(Checks checks, int views) {
        for (int number = 0; number < views; number++) {
            new FullViews(checks, number).checkAll(1 + number % 4, 1 + number % 6);
        }
    }

    private int draw(int bound) {
        seed = seed * 6364136223846793005L + 1442695040888963407L;
        return (int) Math.floorMod(seed >>> 33, (long) bound);
    }

    private void checkAll(int kinds, int documents) {
        for (int document = 0; document < documents; document++) {
            write(letters(kinds, 1 + draw(20)));
            same("add");
            write(letters(kinds, 1 + draw(20)));
            same("insert", document, 0);
        }
        write(PLAIN_ROWS[1]);
        same("learn");
        askView();
        for (int document = 0; document < documents; document++) {
            askDocument(document, documents);
        }
        for (String row : PLAIN_ROWS) {
            askPlainRow(row);
        }
        for (String row : SIMPLE_ROWS) {
            askSimpleRow(row, documents);
        }
        for (String row : REGULAR_ROWS) {
            write(row);
            same("matches", -1);
        }
    }

    private String letters(int kinds, int size) {
        StringBuilder letters = new StringBuilder();
        int period = 1 + draw(8);
        for (int i = 0; i < size; i++) {
            letters.append(i >= period && draw(8) != 0 ? letters.charAt(i - period) : (char) ('a' + draw(kinds)));
        }
        return letters.toString();
    }

    private void askView() {
        int places = 0;
        while (places < 480 && isRank(places)) {
            places++;
        }
        for (String call : new String[] {"runs", "longestRepeat", "maximal", "checksum", "runShare", "meanCommon"}) {
            same(call, -1);
        }
        for (int rank = 0; rank <= places; rank++) {
            same("turned", -1, rank);
            same("ahead", -1, "abcde$".charAt(rank % 6), rank);
            same("suffixAt", -1, rank, "dpl".charAt(rank % 3));
            same("suffixAt", -1, rank, "pld".charAt(rank % 3));
        }
        for (int many = 1; many < 8; many++) {
            same("common", -1, many);
        }
    }

    private boolean isRank(int rank) {
        return !Checks.answerOf(() -> hall.turned(-1, rank)).startsWith("throws");
    }

    private void askDocument(int document, int documents) {
        for (String call : new String[] {"lengthOf", "unique", "squares", "phrases"}) {
            same(call, -1, document);
        }
        for (int errors = 0; errors < 3; errors++) {
            same("palindromes", -1, document, errors);
        }
        for (int place = 0; place <= 40; place++) {
            same("letterAt", -1, document, place);
            same("rankOf", -1, document, place);
            same("longestAt", -1, document, place);
            same("phraseAt", -1, document, place, "plf".charAt(place % 3));
            same("phraseAt", -1, document, place, "fpl".charAt(place % 3));
        }
        same("rules", -1, document, true);
        same("rules", -1, document, false);
        for (int other = 0; other < documents; other++) {
            same("pieces", -1, document, other);
            same("distance", -1, document, other);
        }
    }

    private void askPlainRow(String row) {
        write(row);
        for (int steps = 0; steps <= row.length(); steps++) {
            same("interval", -1, steps, true);
            same("interval", -1, steps, false);
        }
        for (int errors = 0; errors < 3; errors++) {
            same("near", -1, errors, 's');
            same("near", -1, errors, 'e');
            same("near", -1, errors, 't');
        }
    }

    private void askSimpleRow(String row, int documents) {
        write(row);
        same("count", -1);
        same("having", -1);
        for (int index = 0; index < 60; index++) {
            same("found", -1, index, index % 2 == 0);
        }
        for (int index = 0; index <= documents; index++) {
            same("top", -1, index);
        }
        same("limited", -1, 1 + draw(40));
    }

    private void write(String row) {
        same("wipe");
        for (char sign : row.toCharArray()) {
            same("type", sign);
        }
    }

    private static Method method(Class<?> owner, String name) {
        for (Method method : owner.getDeclaredMethods()) {
            if (method.getName().equals(name) && Modifier.isPublic(method.getModifiers())) {
                return method;
            }
        }
        throw new AssertionError(name);
    }

    private void same(String name, Object... values) {
        String due = Checks.answerOf(() -> method(Naive.class, name).invoke(naive, values));
        checks.due(name + java.util.Arrays.toString(values), due,
            () -> method(Suffixhall.class, name).invoke(hall, values));
    }
}
