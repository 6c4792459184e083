import java.util.ArrayList;
import java.util.Comparator;
import java.util.HashMap;
import java.util.HashSet;
import java.util.List;
import java.util.Map;
import java.util.NoSuchElementException;
import java.util.Set;
import java.util.TreeMap;
import java.util.TreeSet;

/** The document once more, word by word, with strings and by trying everything: what answers are compared with. */
public final class Naive {
    private String row = "";
    private State now = new State();
    private State kept = new State();
    private int changes;

    private static final class Segment {
        final Set<Integer> living = new TreeSet<>();
        final List<String> gone = new ArrayList<>();

        Segment copy() {
            Segment other = new Segment();
            other.living.addAll(living);
            other.gone.addAll(gone);
            return other;
        }
    }

    private static final class State {
        TreeMap<Integer, String> texts = new TreeMap<>();
        TreeMap<Integer, TreeMap<Integer, String>> snapshots = new TreeMap<>();
        List<Segment> segments = new ArrayList<>();
        List<String> patterns = new ArrayList<>();
        int added;
        int taken;

        State copy() {
            State other = new State();
            other.texts.putAll(texts);
            snapshots.forEach((number, view) -> other.snapshots.put(number, new TreeMap<>(view)));
            segments.forEach(segment -> other.segments.add(segment.copy()));
            other.patterns.addAll(patterns);
            other.added = added;
            other.taken = taken;
            return other;
        }
    }

    private record Suffix(int document, int place, String letters) {
    }

    // ---- rows and documents ----

    public int type(char sign) {
        if ("abcde.~()|*".indexOf(sign) < 0) {
            throw new IllegalArgumentException();
        }
        if (row.length() == 20) {
            throw new IllegalStateException();
        }
        row += sign;
        return row.length();
    }

    public int wipe() {
        int had = row.length();
        row = "";
        return had;
    }

    public int add() {
        plain();
        if (now.texts.size() == 12 || now.added == 40) {
            throw new IllegalStateException();
        }
        int number = now.added++;
        now.texts.put(number, row);
        live(number);
        row = "";
        changes++;
        return number;
    }

    public int insert(int document, int place) {
        String text = textIn(now.texts, document);
        plain();
        if (place < 0 || place > text.length() || text.length() + row.length() > 40) {
            throw new IllegalArgumentException();
        }
        change(document, text.substring(0, place) + row + text.substring(place));
        row = "";
        return now.texts.get(document).length();
    }

    public int cut(int document, int from, int many) {
        String text = textIn(now.texts, document);
        if (from < 0 || many < 1 || (long) from + many > text.length() || many == text.length()) {
            throw new IllegalArgumentException();
        }
        change(document, text.substring(0, from) + text.substring(from + many));
        return now.texts.get(document).length();
    }

    public int remove(int document) {
        die(document, textIn(now.texts, document));
        now.texts.remove(document);
        changes++;
        return now.texts.size();
    }

    public int documents(int view) {
        return view(view).size();
    }

    public boolean has(int view, int document) {
        return view(view).containsKey(document);
    }

    public int lengthOf(int view, int document) {
        return textIn(view(view), document).length();
    }

    public char letterAt(int view, int document, int place) {
        String text = textIn(view(view), document);
        if (place < 0 || place >= text.length()) {
            throw new NoSuchElementException();
        }
        return text.charAt(place);
    }

    // ---- views and keeping ----

    public int snapshot() {
        if (now.snapshots.size() == 6 || now.taken == 20) {
            throw new IllegalStateException();
        }
        now.snapshots.put(now.taken, new TreeMap<>(now.texts));
        changes++;
        return now.taken++;
    }

    public int drop(int snapshot) {
        if (!now.snapshots.containsKey(snapshot)) {
            throw new IndexOutOfBoundsException();
        }
        now.snapshots.remove(snapshot);
        changes++;
        return now.snapshots.size();
    }

    public int keep() {
        int done = changes;
        kept = now.copy();
        changes = 0;
        return done;
    }

    public int crash() {
        int undone = changes;
        now = kept.copy();
        changes = 0;
        return undone;
    }

    // ---- order ----

    public int suffixAt(int view, int rank, char what) {
        List<Suffix> order = order(view(view));
        if (rank < 0 || rank >= order.size()) {
            throw new NoSuchElementException();
        }
        switch (what) {
            case 'd':
                return order.get(rank).document();
            case 'p':
                return order.get(rank).place();
            case 'l':
                return rank == 0 ? 0 : common(order.get(rank - 1).letters(), order.get(rank).letters());
            default:
                throw new IllegalArgumentException();
        }
    }

    public int rankOf(int view, int document, int place) {
        letterAt(view, document, place);
        List<Suffix> order = order(view(view));
        for (int rank = 0; rank < order.size(); rank++) {
            if (order.get(rank).document() == document && order.get(rank).place() == place) {
                return rank;
            }
        }
        throw new AssertionError();
    }

    public char turned(int view, int rank) {
        String turned = turnedText(view(view));
        if (rank < 0 || rank >= turned.length()) {
            throw new NoSuchElementException();
        }
        return turned.charAt(rank);
    }

    public int runs(int view) {
        String turned = turnedText(view(view));
        return turned.isEmpty() ? 0 : turned.split("(?<=(.))(?!\\1)").length;
    }

    public int ahead(int view, char letter, int rank) {
        String turned = turnedText(view(view));
        if ("abcde$".indexOf(letter) < 0 || rank < 0 || rank > turned.length()) {
            throw new IllegalArgumentException();
        }
        return (int) turned.substring(0, rank).chars().filter(c -> c == letter).count();
    }

    public int interval(int view, int steps, boolean isEnd) {
        List<Suffix> order = order(view(view));
        plain();
        if (steps < 0 || steps > row.length()) {
            throw new IllegalArgumentException();
        }
        String letters = row.substring(row.length() - steps);
        int lower = 0;
        int begin = 0;
        for (Suffix suffix : order) {
            if (suffix.letters().startsWith(letters)) {
                begin++;
            } else if (suffix.letters().compareTo(letters) < 0) {
                lower++;
            }
        }
        return isEnd ? lower + begin : lower;
    }

    // ---- patterns ----

    public int count(int view) {
        return places(view(view), simple()).size();
    }

    public int found(int view, int index, boolean isPlace) {
        List<int[]> places = places(view(view), simple());
        if (index < 0 || index >= places.size()) {
            throw new NoSuchElementException();
        }
        return places.get(index)[isPlace ? 1 : 0];
    }

    public int having(int view) {
        return timesByDocument(view(view)).size();
    }

    public int top(int view, int index) {
        Map<Integer, Integer> times = timesByDocument(view(view));
        List<Integer> documents = new ArrayList<>(times.keySet());
        documents.sort(Comparator.comparing((Integer document) -> -times.get(document))
            .thenComparing(document -> document));
        if (index < 0 || index >= documents.size()) {
            throw new NoSuchElementException();
        }
        return documents.get(index);
    }

    public int limited(int view, int limit) {
        int times = count(view);
        if (limit < 1 || limit > 999) {
            throw new IllegalArgumentException();
        }
        return times <= limit ? times : -limit;
    }

    public int near(int view, int errors, char kind) {
        Map<Integer, String> texts = view(view);
        plain();
        if ("set".indexOf(kind) < 0 || errors < 0 || errors > 2) {
            throw new IllegalArgumentException();
        }
        int total = 0;
        for (String text : texts.values()) {
            for (int place = 0; place < text.length(); place++) {
                boolean isNear = false;
                for (int end = place + 1; end <= text.length(); end++) {
                    isNear |= becomes(text.substring(place, end), row, errors, kind);
                }
                total += isNear ? 1 : 0;
            }
        }
        return total;
    }

    public int matches(int view) {
        Map<Integer, String> texts = view(view);
        if (!isRegular(row)) {
            throw new UnsupportedOperationException();
        }
        int total = 0;
        Map<String, Boolean> known = new HashMap<>();
        for (String text : texts.values()) {
            for (int place = 0; place < text.length(); place++) {
                for (int end = place + 1; end <= text.length(); end++) {
                    total += tells(row, text.substring(place, end), known) ? 1 : 0;
                }
            }
        }
        return total;
    }

    public int learn() {
        plain();
        if (now.patterns.size() == 8) {
            throw new IllegalStateException();
        }
        now.patterns.add(row);
        changes++;
        return now.patterns.size() - 1;
    }

    public int countOf(int view, int pattern) {
        Map<Integer, String> texts = view(view);
        if (pattern < 0 || pattern >= now.patterns.size()) {
            throw new IndexOutOfBoundsException();
        }
        return places(texts, now.patterns.get(pattern)).size();
    }

    public int longestAt(int view, int document, int place) {
        letterAt(view, document, place);
        String letters = view(view).get(document).substring(place);
        int best = -1;
        for (int i = 0; i < now.patterns.size(); i++) {
            String pattern = now.patterns.get(i);
            if (letters.startsWith(pattern)
                && (best < 0 || pattern.length() > now.patterns.get(best).length())) {
                best = i;
            }
        }
        return best;
    }

    // ---- repeats ----

    public int longestRepeat(int view) {
        return placesByString(view(view)).entrySet().stream()
            .filter(entry -> entry.getValue().size() > 1).mapToInt(entry -> entry.getKey().length()).max().orElse(0);
    }

    public int maximal(int view) {
        TreeMap<Integer, String> texts = view(view);
        int total = 0;
        for (Map.Entry<String, List<int[]>> entry : placesByString(texts).entrySet()) {
            Set<String> before = new HashSet<>();
            Set<String> behind = new HashSet<>();
            for (int[] place : entry.getValue()) {
                String text = texts.get(place[0]);
                int end = place[1] + entry.getKey().length();
                before.add(place[1] > 0 ? text.substring(place[1] - 1, place[1]) : "begin " + place[0]);
                behind.add(end < text.length() ? text.substring(end, end + 1) : "end " + place[0]);
            }
            total += before.size() > 1 && behind.size() > 1 ? 1 : 0;
        }
        return total;
    }

    public int common(int view, int many) {
        TreeMap<Integer, String> texts = view(view);
        if (many < 1) {
            throw new IllegalArgumentException();
        }
        int most = 0;
        for (Map.Entry<String, List<int[]>> entry : placesByString(texts).entrySet()) {
            if (entry.getValue().stream().map(place -> place[0]).distinct().count() >= many) {
                most = Math.max(most, entry.getKey().length());
            }
        }
        return most;
    }

    public int unique(int view, int document) {
        TreeMap<Integer, String> texts = view(view);
        textIn(texts, document);
        return placesByString(texts).entrySet().stream()
            .filter(entry -> entry.getValue().size() == 1 && entry.getValue().get(0)[0] == document)
            .mapToInt(entry -> entry.getKey().length()).min().orElseThrow(NoSuchElementException::new);
    }

    public int squares(int view, int document) {
        int total = 0;
        for (String stretch : stretches(textIn(view(view), document))) {
            int half = stretch.length() / 2;
            total += stretch.equals(stretch.substring(0, half) + stretch.substring(0, half)) ? 1 : 0;
        }
        return total;
    }

    public int palindromes(int view, int document, int errors) {
        String text = textIn(view(view), document);
        if (errors < 0 || errors > 2) {
            throw new IllegalArgumentException();
        }
        int total = 0;
        for (String stretch : stretches(text)) {
            String back = new StringBuilder(stretch).reverse().toString();
            int unlike = 0;
            for (int i = 0; i < stretch.length(); i++) {
                unlike += stretch.charAt(i) != back.charAt(i) ? 1 : 0;
            }
            total += stretch.length() > 1 && unlike / 2 <= errors ? 1 : 0;
        }
        return total;
    }

    // ---- parses ----

    public int phrases(int view, int document) {
        return parse(textIn(view(view), document)).size();
    }

    public int phraseAt(int view, int document, int index, char what) {
        List<int[]> parse = parse(textIn(view(view), document));
        if (index < 0 || index >= parse.size()) {
            throw new NoSuchElementException();
        }
        int thing = "plf".indexOf(what);
        if (thing < 0) {
            throw new IllegalArgumentException();
        }
        return parse.get(index)[thing];
    }

    public int pieces(int view, int document, int other) {
        String rest = textIn(view(view), document);
        String source = textIn(view(view), other);
        int total = 0;
        while (!rest.isEmpty()) {
            int size = rest.length();
            while (size > 1 && !source.contains(rest.substring(0, size))) {
                size--;
            }
            rest = rest.substring(size);
            total++;
        }
        return total;
    }

    public int rules(int view, int document, boolean isLeft) {
        List<Integer> symbols = new ArrayList<>();
        textIn(view(view), document).chars().forEach(letter -> symbols.add(letter - 'a'));
        int made = 0;
        while (true) {
            TreeMap<Integer, Integer> times = new TreeMap<>();
            for (int i = 0; i + 1 < symbols.size(); i++) {
                int pair = symbols.get(i) * 1000 + symbols.get(i + 1);
                times.put(pair, replaced(symbols, pair, -1).size());
            }
            int best = -1;
            for (Map.Entry<Integer, Integer> entry : times.entrySet()) {
                if (best < 0 || entry.getValue() < times.get(best)) {
                    best = entry.getKey();
                }
            }
            if (best < 0 || times.get(best) > symbols.size() - 2) {
                return isLeft ? symbols.size() : made;
            }
            List<Integer> fewer = replaced(symbols, best, 5 + made);
            symbols.clear();
            symbols.addAll(fewer);
            made++;
        }
    }

    public int distance(int view, int document, int other) {
        String one = textIn(view(view), document);
        String two = textIn(view(view), other);
        return distance(one, two, new HashMap<>());
    }

    // ---- segments ----

    public int segments() {
        return now.segments.size();
    }

    public int segmentOf(int document) {
        textIn(now.texts, document);
        for (int i = 0; i < now.segments.size(); i++) {
            if (now.segments.get(i).living.contains(document)) {
                return i;
            }
        }
        throw new AssertionError();
    }

    public int dead(int segment) {
        if (segment < 0 || segment >= now.segments.size()) {
            throw new IndexOutOfBoundsException();
        }
        return now.segments.get(segment).gone.size();
    }

    public boolean tidy() {
        boolean isDone = tidyOnce();
        changes += isDone ? 1 : 0;
        return isDone;
    }

    public int cost(boolean isBackward) {
        plain();
        int cost = 0;
        for (Segment segment : now.segments) {
            if (isBackward) {
                cost += 1 + 2 * row.length();
            } else {
                cost += segment.living.stream().mapToInt(document -> now.texts.get(document).length()).sum();
                cost += segment.gone.stream().mapToInt(String::length).sum();
            }
        }
        return cost;
    }

    // ---- figures ----

    public long checksum(int view) {
        long sum = 7;
        for (Map.Entry<Integer, String> entry : view(view).entrySet()) {
            sum = 31 * sum + entry.getKey();
            for (char letter : entry.getValue().toCharArray()) {
                sum = 31 * sum + letter;
            }
        }
        return sum;
    }

    public float runShare(int view) {
        int letters = order(view(view)).size();
        if (letters == 0) {
            throw new NoSuchElementException();
        }
        return (float) runs(view) / (float) letters;
    }

    public double meanCommon(int view) {
        int suffixes = order(view(view)).size();
        if (suffixes == 0) {
            throw new NoSuchElementException();
        }
        int sum = 0;
        for (int rank = 0; rank < suffixes; rank++) {
            sum += suffixAt(view, rank, 'l');
        }
        return (double) sum / (double) suffixes;
    }

    public boolean isSound() {
        return true;
    }

    // ---- helpers ----

    private TreeMap<Integer, String> view(int view) {
        if (view == -1) {
            return now.texts;
        }
        if (!now.snapshots.containsKey(view)) {
            throw new IndexOutOfBoundsException();
        }
        return now.snapshots.get(view);
    }

    private static String textIn(Map<Integer, String> texts, int document) {
        if (!texts.containsKey(document)) {
            throw new IndexOutOfBoundsException();
        }
        return texts.get(document);
    }

    private String plain() {
        if (!row.matches("[a-e]+")) {
            throw new UnsupportedOperationException();
        }
        return row;
    }

    private String simple() {
        if (!row.matches("[a-e.~]*[a-e.][a-e.~]*")) {
            throw new UnsupportedOperationException();
        }
        return row;
    }

    private void live(int document) {
        Segment segment = new Segment();
        segment.living.add(document);
        now.segments.add(0, segment);
    }

    private void die(int document, String text) {
        for (Segment segment : now.segments) {
            if (segment.living.remove(document)) {
                segment.gone.add(text);
            }
        }
    }

    private void change(int document, String text) {
        die(document, now.texts.get(document));
        now.texts.put(document, text);
        live(document);
        changes++;
    }

    private boolean tidyOnce() {
        List<Segment> all = now.segments;
        for (int i = 0; i + 1 < all.size(); i++) {
            if (all.get(i).living.size() >= all.get(i + 1).living.size()) {
                Segment one = new Segment();
                one.living.addAll(all.get(i).living);
                one.living.addAll(all.get(i + 1).living);
                all.remove(i + 1);
                all.set(i, one);
                all.removeIf(segment -> segment.living.isEmpty() && segment.gone.isEmpty());
                return true;
            }
        }
        for (Segment segment : all) {
            if (segment.gone.size() > segment.living.size()) {
                segment.gone.clear();
                all.removeIf(other -> other.living.isEmpty() && other.gone.isEmpty());
                return true;
            }
        }
        return false;
    }

    private static List<Suffix> order(TreeMap<Integer, String> texts) {
        List<Suffix> order = new ArrayList<>();
        texts.forEach((document, text) -> {
            for (int place = 0; place < text.length(); place++) {
                order.add(new Suffix(document, place, text.substring(place)));
            }
        });
        order.sort(Comparator.comparing(Suffix::letters).thenComparing(Suffix::document));
        return order;
    }

    private static String turnedText(TreeMap<Integer, String> texts) {
        StringBuilder turned = new StringBuilder();
        for (Suffix suffix : order(texts)) {
            turned.append(suffix.place() == 0 ? '$' : texts.get(suffix.document()).charAt(suffix.place() - 1));
        }
        return turned.toString();
    }

    private static int common(String one, String two) {
        int same = 0;
        while (same < one.length() && two.startsWith(one.substring(0, same + 1))) {
            same++;
        }
        return same;
    }

    private static List<int[]> places(Map<Integer, String> texts, String pattern) {
        java.util.regex.Pattern simple = java.util.regex.Pattern.compile(pattern.replace("~", ".{0,2}"));
        List<int[]> places = new ArrayList<>();
        texts.forEach((document, text) -> {
            for (int place = 0; place < text.length(); place++) {
                if (simple.matcher(text.substring(place)).lookingAt()) {
                    places.add(new int[] {document, place});
                }
            }
        });
        return places;
    }

    private Map<Integer, Integer> timesByDocument(Map<Integer, String> texts) {
        Map<Integer, Integer> times = new TreeMap<>();
        for (int[] place : places(texts, simple())) {
            times.merge(place[0], 1, Integer::sum);
        }
        return times;
    }

    private static boolean becomes(String stretch, String want, int errors, char kind) {
        if (errors < 0) {
            return false;
        }
        if (stretch.isEmpty() && want.isEmpty()) {
            return true;
        }
        if (!stretch.isEmpty() && !want.isEmpty()) {
            int paid = stretch.charAt(0) == want.charAt(0) ? 0 : 1;
            if (becomes(stretch.substring(1), want.substring(1), errors - paid, kind)) {
                return true;
            }
        }
        if (kind == 's') {
            return false;
        }
        if (kind == 't' && stretch.length() > 1 && want.length() > 1 && stretch.charAt(0) == want.charAt(1)
            && stretch.charAt(1) == want.charAt(0)
            && becomes(stretch.substring(2), want.substring(2), errors - 1, kind)) {
            return true;
        }
        return !stretch.isEmpty() && becomes(stretch.substring(1), want, errors - 1, kind)
            || !want.isEmpty() && becomes(stretch, want.substring(1), errors - 1, kind);
    }

    static boolean isRegular(String row) {
        String flat = row.replaceAll("[a-e.]", "a");
        String before;
        do {
            before = flat;
            flat = flat.replaceAll("\\((a\\*?)+(\\|(a\\*?)+)*\\)", "a");
        } while (!before.equals(flat));
        return flat.matches("(a\\*?)+(\\|(a\\*?)+)*");
    }

    private static boolean tells(String regular, String text, Map<String, Boolean> known) {
        String key = regular + " " + text;
        Boolean told = known.get(key);
        if (told == null) {
            told = tellsAnew(regular, text, known);
            known.put(key, told);
        }
        return told;
    }

    private static boolean tellsAnew(String regular, String text, Map<String, Boolean> known) {
        int depth = 0;
        for (int i = 0; i < regular.length(); i++) {
            depth += regular.charAt(i) == '(' ? 1 : regular.charAt(i) == ')' ? -1 : 0;
            if (depth == 0 && regular.charAt(i) == '|') {
                return tells(regular.substring(0, i), text, known) || tells(regular.substring(i + 1), text, known);
            }
        }
        if (regular.isEmpty()) {
            return text.isEmpty();
        }
        int end = 0;
        do {
            depth += regular.charAt(end) == '(' ? 1 : regular.charAt(end) == ')' ? -1 : 0;
            end++;
        } while (depth > 0);
        String item = regular.substring(0, end);
        boolean isMany = end < regular.length() && regular.charAt(end) == '*';
        String rest = regular.substring(isMany ? end + 1 : end);
        if (isMany && tells(rest, text, known)) {
            return true;
        }
        for (int i = isMany ? 1 : 0; i <= text.length(); i++) {
            if (isItem(item, text.substring(0, i), known) && tells(isMany ? regular : rest, text.substring(i), known)) {
                return true;
            }
        }
        return false;
    }

    private static boolean isItem(String item, String text, Map<String, Boolean> known) {
        if (item.startsWith("(")) {
            return tells(item.substring(1, item.length() - 1), text, known);
        }
        return text.length() == 1 && (item.equals(".") || item.equals(text));
    }

    private static Map<String, List<int[]>> placesByString(TreeMap<Integer, String> texts) {
        Map<String, List<int[]>> places = new HashMap<>();
        texts.forEach((document, text) -> {
            for (int place = 0; place < text.length(); place++) {
                for (int end = place + 1; end <= text.length(); end++) {
                    places.computeIfAbsent(text.substring(place, end), string -> new ArrayList<>())
                        .add(new int[] {document, place});
                }
            }
        });
        return places;
    }

    private static List<String> stretches(String text) {
        List<String> stretches = new ArrayList<>();
        for (int place = 0; place < text.length(); place++) {
            for (int end = place + 1; end <= text.length(); end++) {
                stretches.add(text.substring(place, end));
            }
        }
        return stretches;
    }

    private static List<int[]> parse(String text) {
        List<int[]> parse = new ArrayList<>();
        int place = 0;
        while (place < text.length()) {
            int size = text.length() - place;
            while (size > 1 && text.indexOf(text.substring(place, place + size)) >= place) {
                size--;
            }
            int first = text.indexOf(text.substring(place, place + size));
            parse.add(new int[] {place, size, first < place ? first : -1});
            place += size;
        }
        return parse;
    }

    private static List<Integer> replaced(List<Integer> symbols, int pair, int rule) {
        List<Integer> fewer = new ArrayList<>();
        for (int i = 0; i < symbols.size(); i++) {
            if (i + 1 < symbols.size() && symbols.get(i) * 1000 + symbols.get(i + 1) == pair) {
                fewer.add(rule);
                i++;
            } else {
                fewer.add(symbols.get(i));
            }
        }
        return fewer;
    }

    private static int distance(String one, String two, Map<String, Integer> known) {
        if (one.isEmpty() || two.isEmpty()) {
            return one.length() + two.length();
        }
        String key = one.length() + " " + two.length();
        Integer least = known.get(key);
        if (least == null) {
            String less = one.substring(1);
            String fewer = two.substring(1);
            least = Math.min(distance(less, fewer, known) + (one.charAt(0) == two.charAt(0) ? 0 : 1),
                1 + Math.min(distance(less, two, known), distance(one, fewer, known)));
            known.put(key, least);
        }
        return least;
    }
}
