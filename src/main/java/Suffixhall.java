import java.util.Arrays;
import java.util.NoSuchElementException;

/**
 * An index of all texts at once, as ../shared/DOC.md promises it: documents, snapshots and segments, the order of
 * their suffixes, patterns, repeats, parses and distances. The numbers in the comments are those of the promises.
 */
public final class Suffixhall {
    private static final int PRESENT = -1;
    private static final int NOWHERE = -1;
    private static final int MOST_SIGNS = 20;
    private static final int MOST_DOCUMENTS = 12;
    private static final int MOST_ADDED = 40;
    private static final int MOST_LETTERS = 40;
    private static final int MOST_PLACES = MOST_DOCUMENTS * MOST_LETTERS;
    private static final int MOST_SNAPSHOTS = 6;
    private static final int MOST_TAKEN = 20;
    private static final int MOST_PATTERNS = 8;
    private static final int MOST_ERRORS = 2;
    private static final int MOST_LIMIT = 999;
    // One call makes one segment at most, and an object is used for 512 calls.
    private static final int MOST_SEGMENTS = 512;
    // A bracket takes two signs and something between, so that none is closed below this depth.
    private static final int DEEPEST = MOST_SIGNS / 2;
    private static final int KINDS_OF_LETTERS = 5;
    private static final char NONE = 0;
    private static final char BEGINNING = '$';
    private static final char ANY = '.';
    private static final char GAP = '~';

    private final Row row = new Row();
    private final Hall now = new Hall();
    private final Hall kept = new Hall();
    private final Regular regular = new Regular();
    private final Edits edits = new Edits();
    private final Parse parse = new Parse();
    private final Pairs pairs = new Pairs();
    private int changes;

    /** Promise 1. */
    public Suffixhall() {
    }

    // ---- rows and documents ----

    /** Promise 2. */
    public int type(char sign) throws IllegalArgumentException, IllegalStateException {
        if (!isSign(sign)) {
            throw new IllegalArgumentException("no such sign");
        }
        if (row.size() >= MOST_SIGNS) {
            throw new IllegalStateException("the row is full");
        }
        row.append(sign);
        return row.size();
    }

    /** Promise 3. */
    public int wipe() {
        int had = row.size();
        row.empty();
        return had;
    }

    /** Promise 4. */
    public int add() throws UnsupportedOperationException, IllegalStateException {
        needPlainRow();
        if (!now.hasRoom()) {
            throw new IllegalStateException("no more documents");
        }
        int document = now.takeIn(row);
        row.empty();
        changes++;
        return document;
    }

    /** Promise 5. */
    public int insert(int document, int place)
            throws IndexOutOfBoundsException, UnsupportedOperationException, IllegalArgumentException {
        Texts texts = now.present().texts();
        int slot = neededSlot(texts, document);
        needPlainRow();
        int size = texts.sizeAt(slot);
        if (place < 0 || place > size || size + row.size() > MOST_LETTERS) {
            throw new IllegalArgumentException("no such place, or too many letters");
        }
        now.widen(slot, place, row);
        row.empty();
        changes++;
        return texts.sizeAt(slot);
    }

    /** Promise 6. */
    public int cut(int document, int from, int many) throws IndexOutOfBoundsException, IllegalArgumentException {
        Texts texts = now.present().texts();
        int slot = neededSlot(texts, document);
        int size = texts.sizeAt(slot);
        if (from < 0 || many < 1 || many >= size || from > size - many) {
            throw new IllegalArgumentException("no such letters, or none would be left");
        }
        now.narrow(slot, from, many);
        changes++;
        return texts.sizeAt(slot);
    }

    /** Promise 7. */
    public int remove(int document) throws IndexOutOfBoundsException {
        Texts texts = now.present().texts();
        int slot = neededSlot(texts, document);
        now.takeOut(slot);
        changes++;
        return texts.many();
    }

    /** Promise 8. */
    public int documents(int view) throws IndexOutOfBoundsException {
        return neededView(view).texts().many();
    }

    /** Promise 9. */
    public boolean has(int view, int document) throws IndexOutOfBoundsException {
        return neededView(view).texts().slotOf(document) != NOWHERE;
    }

    /** Promise 10. */
    public int lengthOf(int view, int document) throws IndexOutOfBoundsException {
        Texts texts = neededView(view).texts();
        return texts.sizeAt(neededSlot(texts, document));
    }

    /** Promise 11. */
    public char letterAt(int view, int document, int place)
            throws IndexOutOfBoundsException, NoSuchElementException {
        Texts texts = neededView(view).texts();
        int slot = neededSlot(texts, document);
        needPlace(texts, slot, place);
        return texts.letter(slot, place);
    }

    // ---- views and keeping ----

    /** Promise 12. */
    public int snapshot() throws IllegalStateException {
        if (!now.canTake()) {
            throw new IllegalStateException("no more snapshots");
        }
        int number = now.take();
        changes++;
        return number;
    }

    /** Promise 13. */
    public int drop(int snapshot) throws IndexOutOfBoundsException {
        int shelf = now.shelfOf(snapshot);
        if (shelf == NOWHERE) {
            throw new IndexOutOfBoundsException("no such snapshot");
        }
        now.clearShelf(shelf);
        changes++;
        return now.snapshotsKept();
    }

    /** Promise 14. */
    public int keep() {
        int done = changes;
        kept.become(now);
        changes = 0;
        return done;
    }

    /** Promise 15. */
    public int crash() {
        int undone = changes;
        now.become(kept);
        changes = 0;
        return undone;
    }

    // ---- order ----

    /** Promise 16. */
    public int suffixAt(int view, int rank, char what)
            throws IndexOutOfBoundsException, NoSuchElementException, IllegalArgumentException {
        View seen = orderedView(view);
        needRank(seen, rank);
        if (what == 'd') {
            return seen.texts().numberAt(seen.slotAt(rank));
        }
        if (what == 'p') {
            return seen.placeAt(rank);
        }
        if (what == 'l') {
            return seen.commonAt(rank);
        }
        throw new IllegalArgumentException("no such thing");
    }

    /** Promise 17. */
    public int rankOf(int view, int document, int place) throws IndexOutOfBoundsException, NoSuchElementException {
        View seen = orderedView(view);
        int slot = neededSlot(seen.texts(), document);
        needPlace(seen.texts(), slot, place);
        return seen.rankAt(slot, place);
    }

    /** Promise 18. */
    public char turned(int view, int rank) throws IndexOutOfBoundsException, NoSuchElementException {
        View seen = orderedView(view);
        needRank(seen, rank);
        return seen.turnedAt(rank);
    }

    /** Promise 19. */
    public int runs(int view) throws IndexOutOfBoundsException {
        return orderedView(view).runsOfTurned();
    }

    /** Promise 20. */
    public int ahead(int view, char letter, int rank) throws IndexOutOfBoundsException, IllegalArgumentException {
        View seen = orderedView(view);
        if (!isLetter(letter) && letter != BEGINNING) {
            throw new IllegalArgumentException("no such letter");
        }
        if (rank < 0 || rank > seen.texts().places()) {
            throw new IllegalArgumentException("no such rank");
        }
        return seen.turnedAhead(letter, rank);
    }

    /** Promise 21. */
    public int interval(int view, int steps, boolean isEnd)
            throws IndexOutOfBoundsException, UnsupportedOperationException, IllegalArgumentException {
        View seen = neededView(view);
        needPlainRow();
        if (steps < 0 || steps > row.size()) {
            throw new IllegalArgumentException("not so many steps");
        }
        return seen.boundOf(row, row.size() - steps, isEnd);
    }

    // ---- patterns ----

    /** Promise 22. */
    public int count(int view) throws IndexOutOfBoundsException, UnsupportedOperationException {
        Texts texts = neededView(view).texts();
        needSimpleRow();
        return texts.timesOf(row);
    }

    /** Promise 23. */
    public int found(int view, int index, boolean isPlace)
            throws IndexOutOfBoundsException, UnsupportedOperationException, NoSuchElementException {
        Texts texts = neededView(view).texts();
        needSimpleRow();
        int left = index;
        for (int slot = 0; slot < texts.many() && left >= 0; slot++) {
            long fits = texts.placesOf(slot, row);
            int times = Long.bitCount(fits);
            if (left < times) {
                return isPlace ? placeOfBit(fits, left) : texts.numberAt(slot);
            }
            left -= times;
        }
        throw new NoSuchElementException("not found so often");
    }

    /** Promise 24. */
    public int having(int view) throws IndexOutOfBoundsException, UnsupportedOperationException {
        Texts texts = neededView(view).texts();
        needSimpleRow();
        int total = 0;
        for (int slot = 0; slot < texts.many(); slot++) {
            if (texts.placesOf(slot, row) != 0) {
                total++;
            }
        }
        return total;
    }

    /** Promise 25. */
    public int top(int view, int index)
            throws IndexOutOfBoundsException, UnsupportedOperationException, NoSuchElementException {
        Texts texts = neededView(view).texts();
        needSimpleRow();
        for (int slot = 0; slot < texts.many(); slot++) {
            if (texts.placesOf(slot, row) != 0 && texts.betterThan(slot, row) == index) {
                return texts.numberAt(slot);
            }
        }
        throw new NoSuchElementException("not so many documents");
    }

    /** Promise 26. */
    public int limited(int view, int limit)
            throws IndexOutOfBoundsException, UnsupportedOperationException, IllegalArgumentException {
        Texts texts = neededView(view).texts();
        needSimpleRow();
        if (limit < 1 || limit > MOST_LIMIT) {
            throw new IllegalArgumentException("the limit is out of range");
        }
        int times = texts.timesOf(row);
        return times > limit ? -limit : times;
    }

    /** Promise 27. */
    public int near(int view, int errors, char kind)
            throws IndexOutOfBoundsException, UnsupportedOperationException, IllegalArgumentException {
        Texts texts = neededView(view).texts();
        needPlainRow();
        if (kind != 's' && kind != 'e' && kind != 't') {
            throw new IllegalArgumentException("no such kind");
        }
        if (errors < 0 || errors > MOST_ERRORS) {
            throw new IllegalArgumentException("no such number of errors");
        }
        int total = 0;
        for (int slot = 0; slot < texts.many(); slot++) {
            for (int place = 0; place < texts.sizeAt(slot); place++) {
                if (isNear(texts, slot, place, errors, kind)) {
                    total++;
                }
            }
        }
        return total;
    }

    /** Promise 28. */
    public int matches(int view) throws IndexOutOfBoundsException, UnsupportedOperationException {
        Texts texts = neededView(view).texts();
        if (!regular.read(row)) {
            throw new UnsupportedOperationException("the row is not regular");
        }
        int total = 0;
        for (int slot = 0; slot < texts.many(); slot++) {
            for (int place = 0; place < texts.sizeAt(slot); place++) {
                total += regular.stretchesFrom(texts, slot, place);
            }
        }
        return total;
    }

    /** Promise 29. */
    public int learn() throws UnsupportedOperationException, IllegalStateException {
        needPlainRow();
        if (now.dictionary().isFull()) {
            throw new IllegalStateException("the dictionary is full");
        }
        changes++;
        return now.dictionary().store(row);
    }

    /** Promise 30. */
    public int countOf(int view, int pattern) throws IndexOutOfBoundsException {
        Texts texts = neededView(view).texts();
        Row stored = now.dictionary().pattern(pattern);
        if (stored == null) {
            throw new IndexOutOfBoundsException("no such pattern");
        }
        return texts.timesOf(stored);
    }

    /** Promise 31. */
    public int longestAt(int view, int document, int place)
            throws IndexOutOfBoundsException, NoSuchElementException {
        Texts texts = neededView(view).texts();
        int slot = neededSlot(texts, document);
        needPlace(texts, slot, place);
        return now.dictionary().longestOn(texts, slot, place);
    }

    // ---- repeats ----

    /** Promise 32. */
    public int longestRepeat(int view) throws IndexOutOfBoundsException {
        return orderedView(view).mostInCommon();
    }

    /** Promise 33. */
    public int maximal(int view) throws IndexOutOfBoundsException {
        return orderedView(view).maximalRepeats();
    }

    /** Promise 34. */
    public int common(int view, int many) throws IndexOutOfBoundsException, IllegalArgumentException {
        View seen = orderedView(view);
        if (many < 1) {
            throw new IllegalArgumentException("too few documents");
        }
        return seen.mostInDocuments(many);
    }

    /** Promise 35. */
    public int unique(int view, int document) throws IndexOutOfBoundsException, NoSuchElementException {
        View seen = orderedView(view);
        int fewest = seen.fewestAlone(neededSlot(seen.texts(), document));
        if (fewest < 1) {
            throw new NoSuchElementException("no such string");
        }
        return fewest;
    }

    /** Promise 36. */
    public int squares(int view, int document) throws IndexOutOfBoundsException {
        Texts texts = neededView(view).texts();
        return texts.squaresIn(neededSlot(texts, document));
    }

    /** Promise 37. */
    public int palindromes(int view, int document, int errors)
            throws IndexOutOfBoundsException, IllegalArgumentException {
        Texts texts = neededView(view).texts();
        int slot = neededSlot(texts, document);
        if (errors < 0 || errors > MOST_ERRORS) {
            throw new IllegalArgumentException("no such number of errors");
        }
        return texts.palindromesIn(slot, errors);
    }

    // ---- parses ----

    /** Promise 38. */
    public int phrases(int view, int document) throws IndexOutOfBoundsException {
        Texts texts = neededView(view).texts();
        parse.read(texts, neededSlot(texts, document));
        return parse.many();
    }

    /** Promise 39. */
    public int phraseAt(int view, int document, int index, char what)
            throws IndexOutOfBoundsException, NoSuchElementException, IllegalArgumentException {
        Texts texts = neededView(view).texts();
        parse.read(texts, neededSlot(texts, document));
        if (index < 0 || index >= parse.many()) {
            throw new NoSuchElementException("no such phrase");
        }
        if (what == 'p') {
            return parse.beginAt(index);
        }
        if (what == 'l') {
            return parse.sizeAt(index);
        }
        if (what == 'f') {
            return parse.firstAt(index);
        }
        throw new IllegalArgumentException("no such thing");
    }

    /** Promise 40. */
    public int pieces(int view, int document, int other) throws IndexOutOfBoundsException {
        Texts texts = neededView(view).texts();
        int slot = neededSlot(texts, document);
        return parse.piecesBy(texts, slot, neededSlot(texts, other));
    }

    /** Promise 41. */
    public int rules(int view, int document, boolean isLeft) throws IndexOutOfBoundsException {
        Texts texts = neededView(view).texts();
        pairs.read(texts, neededSlot(texts, document));
        return isLeft ? pairs.left() : pairs.made();
    }

    /** Promise 42. */
    public int distance(int view, int document, int other) throws IndexOutOfBoundsException {
        Texts texts = neededView(view).texts();
        int slot = neededSlot(texts, document);
        return edits.between(texts, slot, neededSlot(texts, other));
    }

    // ---- segments ----

    /** Promise 43. */
    public int segments() {
        return now.segmentList().many();
    }

    /** Promise 44. */
    public int segmentOf(int document) throws IndexOutOfBoundsException {
        neededSlot(now.present().texts(), document);
        return now.segmentList().segmentHaving(document);
    }

    /** Promise 45. */
    public int dead(int segment) throws IndexOutOfBoundsException {
        if (segment < 0 || segment >= now.segmentList().many()) {
            throw new IndexOutOfBoundsException("no such segment");
        }
        return now.segmentList().deadIn(segment);
    }

    /** Promise 46. */
    public boolean tidy() {
        boolean isDone = now.segmentList().tidyOnce();
        if (isDone) {
            changes++;
        }
        return isDone;
    }

    /** Promise 47. */
    public int cost(boolean isBackward) throws UnsupportedOperationException {
        needPlainRow();
        Segments list = now.segmentList();
        if (isBackward) {
            return list.many() * (1 + 2 * row.size());
        }
        return now.present().texts().places() + list.deadLetters();
    }

    // ---- figures ----

    /** Promise 48. */
    public long checksum(int view) throws IndexOutOfBoundsException {
        return neededView(view).texts().sum();
    }

    /** Promise 49. */
    public float runShare(int view) throws IndexOutOfBoundsException, NoSuchElementException {
        View seen = orderedView(view);
        int letters = seen.texts().places();
        if (letters < 1) {
            throw new NoSuchElementException("no letters");
        }
        return (float) seen.runsOfTurned() / (float) letters;
    }

    /** Promise 50. */
    public double meanCommon(int view) throws IndexOutOfBoundsException, NoSuchElementException {
        View seen = orderedView(view);
        int suffixes = seen.texts().places();
        if (suffixes < 1) {
            throw new NoSuchElementException("no suffixes");
        }
        return (double) seen.sumInCommon() / (double) suffixes;
    }

    /** Promise 51. */
    public boolean isSound() {
        return now.isWhole();
    }

    // ---- what calls have in common ----

    private static boolean isLetter(char sign) {
        return sign >= 'a' && sign <= 'e';
    }

    private static boolean isSign(char sign) {
        return isLetter(sign) || sign == ANY || sign == GAP || sign == '(' || sign == ')' || sign == '|'
            || sign == '*';
    }

    private View neededView(int view) {
        View seen = now.viewOf(view);
        if (seen == null) {
            throw new IndexOutOfBoundsException("no such view");
        }
        return seen;
    }

    private View orderedView(int view) {
        View seen = neededView(view);
        seen.putInOrder();
        return seen;
    }

    private static int neededSlot(Texts texts, int document) {
        int slot = texts.slotOf(document);
        if (slot == NOWHERE) {
            throw new IndexOutOfBoundsException("no such document");
        }
        return slot;
    }

    private static void needPlace(Texts texts, int slot, int place) {
        if (place < 0 || place >= texts.sizeAt(slot)) {
            throw new NoSuchElementException("no such place");
        }
    }

    private static void needRank(View seen, int rank) {
        if (rank < 0 || rank >= seen.texts().places()) {
            throw new NoSuchElementException("no such rank");
        }
    }

    private void needPlainRow() {
        if (!row.isPlain()) {
            throw new UnsupportedOperationException("the row is not plain");
        }
    }

    private void needSimpleRow() {
        if (!row.isSimple()) {
            throw new UnsupportedOperationException("the row is not simple");
        }
    }

    private static int placeOfBit(long bits, int index) {
        int left = index;
        for (int place = 0; place < MOST_LETTERS; place++) {
            if ((bits >>> place & 1L) != 0) {
                if (left == 0) {
                    return place;
                }
                left--;
            }
        }
        return NOWHERE;
    }

    private boolean isNear(Texts texts, int slot, int place, int errors, char kind) {
        if (kind == 's') {
            return texts.sizeAt(slot) - place >= row.size() && texts.exchangedAt(slot, place, row) <= errors;
        }
        return edits.fewestFrom(texts, slot, place, row, kind == 't') <= errors;
    }

    /** Signs one behind the other: what is typed, or a pattern of the dictionary. */
    private static final class Row {
        private final char[] signs = new char[MOST_SIGNS];
        private int size;

        int size() {
            return size;
        }

        char sign(int index) {
            return index >= 0 && index < size && index < signs.length ? signs[index] : NONE;
        }

        void append(char sign) {
            if (size >= 0 && size < signs.length) {
                signs[size] = sign;
                size++;
            }
        }

        void empty() {
            size = 0;
        }

        void become(Row other) {
            empty();
            for (int i = 0; i < other.size(); i++) {
                append(other.sign(i));
            }
        }

        boolean isPlain() {
            for (int i = 0; i < size; i++) {
                if (!isLetter(sign(i))) {
                    return false;
                }
            }
            return size > 0;
        }

        boolean isSimple() {
            boolean hasLetter = false;
            for (int i = 0; i < size; i++) {
                char sign = sign(i);
                boolean isOne = isLetter(sign) || sign == ANY;
                if (!isOne && sign != GAP) {
                    return false;
                }
                hasLetter = hasLetter || isOne;
            }
            return hasLetter;
        }
    }

    /** The documents of a view, each in a slot, by rising numbers. */
    private static final class Texts {
        private final int[] numbers = new int[MOST_DOCUMENTS];
        private final int[] sizes = new int[MOST_DOCUMENTS];
        private final char[] letters = new char[MOST_PLACES];
        private int many;

        int many() {
            return many;
        }

        private boolean isSlot(int slot) {
            return slot >= 0 && slot < many && slot < MOST_DOCUMENTS;
        }

        int slotOf(int document) {
            for (int slot = 0; slot < many; slot++) {
                if (numberAt(slot) == document) {
                    return slot;
                }
            }
            return NOWHERE;
        }

        int numberAt(int slot) {
            return isSlot(slot) ? numbers[slot] : NOWHERE;
        }

        int sizeAt(int slot) {
            return isSlot(slot) ? sizes[slot] : 0;
        }

        /** NONE where there is no letter: it is like no letter and lower than all. */
        char letter(int slot, int place) {
            // It is called most of all, and deepest: so it looks at the slot itself.
            if (slot < 0 || slot >= many || slot >= MOST_DOCUMENTS || place < 0 || place >= sizes[slot]) {
                return NONE;
            }
            return place < MOST_LETTERS ? letters[slot * MOST_LETTERS + place] : NONE;
        }

        int places() {
            int total = 0;
            for (int slot = 0; slot < many; slot++) {
                total += sizeAt(slot);
            }
            return total;
        }

        void append(int document, Row row) {
            if (many < 0 || many >= MOST_DOCUMENTS) {
                return;
            }
            numbers[many] = document;
            sizes[many] = 0;
            many++;
            widen(many - 1, 0, row);
        }

        void widen(int slot, int place, Row row) {
            int size = sizeAt(slot);
            int more = row.size();
            if (!isSlot(slot) || place < 0 || place > size || size + more > MOST_LETTERS) {
                return;
            }
            int base = slot * MOST_LETTERS;
            System.arraycopy(letters, base + place, letters, base + place + more, size - place);
            for (int i = 0; i < more; i++) {
                letters[base + place + i] = row.sign(i);
            }
            sizes[slot] = size + more;
        }

        void narrow(int slot, int from, int less) {
            int size = sizeAt(slot);
            if (!isSlot(slot) || from < 0 || less < 0 || from > size - less) {
                return;
            }
            int base = slot * MOST_LETTERS;
            System.arraycopy(letters, base + from + less, letters, base + from, size - less - from);
            sizes[slot] = size - less;
        }

        void takeOut(int slot) {
            if (!isSlot(slot)) {
                return;
            }
            int behind = many - 1 - slot;
            int base = slot * MOST_LETTERS;
            System.arraycopy(numbers, slot + 1, numbers, slot, behind);
            System.arraycopy(sizes, slot + 1, sizes, slot, behind);
            System.arraycopy(letters, base + MOST_LETTERS, letters, base, behind * MOST_LETTERS);
            many--;
        }

        void become(Texts other) {
            System.arraycopy(other.numbers, 0, numbers, 0, MOST_DOCUMENTS);
            System.arraycopy(other.sizes, 0, sizes, 0, MOST_DOCUMENTS);
            System.arraycopy(other.letters, 0, letters, 0, MOST_PLACES);
            many = other.many;
        }

        /** How many letters two suffixes have in common from their beginnings. */
        int shared(int slot, int place, int otherSlot, int otherPlace) {
            int same = 0;
            while (same < MOST_LETTERS) {
                char letter = letter(slot, place + same);
                if (letter == NONE || letter != letter(otherSlot, otherPlace + same)) {
                    return same;
                }
                same++;
            }
            return same;
        }

        /** Below 0 if the first suffix is the lower one. */
        int compare(int slot, int place, int otherSlot, int otherPlace) {
            int same = shared(slot, place, otherSlot, otherPlace);
            int apart = letter(slot, place + same) - letter(otherSlot, otherPlace + same);
            return apart != 0 ? apart : slot - otherSlot;
        }

        /** Below 0 if the suffix is lower than the row from a sign on, 0 if it begins with that. */
        int compareToRow(int slot, int place, Row row, int from) {
            for (int i = from; i < row.size(); i++) {
                int apart = letter(slot, place + i - from) - row.sign(i);
                if (apart != 0) {
                    return apart;
                }
            }
            return 0;
        }

        private long allPlaces(int slot) {
            return (1L << sizeAt(slot)) - 1;
        }

        private long placesTaking(int slot, char sign) {
            if (sign == ANY) {
                return allPlaces(slot);
            }
            long bits = 0;
            for (int place = 0; place < sizeAt(slot); place++) {
                if (letter(slot, place) == sign) {
                    bits |= 1L << place;
                }
            }
            return bits;
        }

        /** A bit for each place where a simple row is found. */
        long placesOf(int slot, Row row) {
            // The row is gone through from its end; a bit stands where the signs gone through fit, the end too.
            long fits = (allPlaces(slot) << 1) + 1;
            for (int i = row.size() - 1; i >= 0; i--) {
                char sign = row.sign(i);
                if (sign == GAP) {
                    fits = fits | fits >>> 1 | fits >>> 2;
                } else {
                    fits = fits >>> 1 & placesTaking(slot, sign);
                }
            }
            return fits & allPlaces(slot);
        }

        int timesOf(Row row) {
            int total = 0;
            for (int slot = 0; slot < many; slot++) {
                total += Long.bitCount(placesOf(slot, row));
            }
            return total;
        }

        /** In how many documents a row is found more often, or as often with a lower number. */
        int betterThan(int slot, Row row) {
            int times = Long.bitCount(placesOf(slot, row));
            int better = 0;
            for (int other = 0; other < many; other++) {
                int otherTimes = Long.bitCount(placesOf(other, row));
                if (otherTimes > times || otherTimes == times && other < slot) {
                    better++;
                }
            }
            return better;
        }

        /** How many letters of the row are others than those from a place on. */
        int exchangedAt(int slot, int place, Row row) {
            int unlike = 0;
            for (int i = 0; i < row.size(); i++) {
                if (letter(slot, place + i) != row.sign(i)) {
                    unlike++;
                }
            }
            return unlike;
        }

        int squaresIn(int slot) {
            int size = sizeAt(slot);
            int total = 0;
            for (int half = 1; half <= size / 2; half++) {
                int alike = 0;
                for (int place = 0; place + half < size; place++) {
                    alike = letter(slot, place) == letter(slot, place + half) ? alike + 1 : 0;
                    if (alike >= half) {
                        total++;
                    }
                }
            }
            return total;
        }

        int palindromesIn(int slot, int errors) {
            int total = 0;
            for (int middle = 0; middle < sizeAt(slot); middle++) {
                total += palindromesAround(slot, middle - 1, middle + 1, errors);
                total += palindromesAround(slot, middle, middle + 1, errors);
            }
            return total;
        }

        private int palindromesAround(int slot, int left, int right, int errors) {
            int reach = Math.min(left, sizeAt(slot) - 1 - right);
            int unlike = 0;
            int total = 0;
            for (int i = 0; i <= reach; i++) {
                if (letter(slot, left - i) != letter(slot, right + i)) {
                    unlike++;
                }
                if (unlike <= errors) {
                    total++;
                }
            }
            return total;
        }

        long sum() {
            long total = 7;
            for (int slot = 0; slot < many; slot++) {
                total = 31 * total + numberAt(slot);
                for (int place = 0; place < sizeAt(slot); place++) {
                    total = 31 * total + letter(slot, place);
                }
            }
            return total;
        }
    }

    /** The documents of a view and the order of their suffixes; putInOrder is to be called ahead of all about ranks. */
    private static final class View {
        private final Texts texts = new Texts();
        // A suffix is coded as its slot times MOST_LETTERS plus its place.
        private final int[] codes = new int[MOST_PLACES];
        private final int[] ranks = new int[MOST_PLACES];
        private final int[] commons = new int[MOST_PLACES];
        private int many;
        private boolean isOrdered;

        Texts texts() {
            return texts;
        }

        /** To be said whenever the texts have changed. */
        void forgetOrder() {
            isOrdered = false;
            many = 0;
        }

        void become(View other) {
            texts.become(other.texts);
            forgetOrder();
        }

        void putInOrder() {
            if (isOrdered) {
                return;
            }
            many = 0;
            for (int slot = 0; slot < texts.many(); slot++) {
                for (int place = 0; place < texts.sizeAt(slot); place++) {
                    putIn(slot, place);
                }
            }
            isOrdered = true;
            for (int rank = 0; rank < many && rank < MOST_PLACES; rank++) {
                int code = codes[rank];
                if (code >= 0 && code < MOST_PLACES) {
                    ranks[code] = rank;
                }
                commons[rank] = rank == 0 ? 0
                    : texts.shared(slotAt(rank - 1), placeAt(rank - 1), slotAt(rank), placeAt(rank));
            }
        }

        private void putIn(int slot, int place) {
            if (many < 0 || many >= MOST_PLACES) {
                return;
            }
            int low = 0;
            int high = many;
            for (int step = 0; step < MOST_PLACES && low < high; step++) {
                int middle = (low + high) / 2;
                int code = codes[middle];
                if (texts.compare(code / MOST_LETTERS, code % MOST_LETTERS, slot, place) < 0) {
                    low = middle + 1;
                } else {
                    high = middle;
                }
            }
            System.arraycopy(codes, low, codes, low + 1, many - low);
            codes[low] = slot * MOST_LETTERS + place;
            many++;
        }

        private int codeAt(int rank) {
            return rank >= 0 && rank < many && rank < codes.length ? codes[rank] : NOWHERE;
        }

        int slotAt(int rank) {
            int code = codeAt(rank);
            return code < 0 ? NOWHERE : code / MOST_LETTERS;
        }

        int placeAt(int rank) {
            int code = codeAt(rank);
            return code < 0 ? NOWHERE : code % MOST_LETTERS;
        }

        /** 0 for the first rank, and behind the last one. */
        int commonAt(int rank) {
            return codeAt(rank) < 0 ? 0 : commons[rank];
        }

        int rankAt(int slot, int place) {
            return texts.letter(slot, place) == NONE ? NOWHERE : ranks[slot * MOST_LETTERS + place];
        }

        char turnedAt(int rank) {
            int place = placeAt(rank);
            return place == 0 ? BEGINNING : texts.letter(slotAt(rank), place - 1);
        }

        int runsOfTurned() {
            int total = 0;
            for (int rank = 0; rank < texts.places(); rank++) {
                if (rank == 0 || turnedAt(rank) != turnedAt(rank - 1)) {
                    total++;
                }
            }
            return total;
        }

        int turnedAhead(char letter, int rank) {
            int total = 0;
            for (int i = 0; i < rank; i++) {
                if (turnedAt(i) == letter) {
                    total++;
                }
            }
            return total;
        }

        /** Where the suffixes that begin with the row from a sign on begin or end in the order. */
        int boundOf(Row row, int from, boolean isEnd) {
            int total = 0;
            for (int slot = 0; slot < texts.many(); slot++) {
                for (int place = 0; place < texts.sizeAt(slot); place++) {
                    int apart = texts.compareToRow(slot, place, row, from);
                    if (apart < 0 || apart == 0 && isEnd) {
                        total++;
                    }
                }
            }
            return total;
        }

        int mostInCommon() {
            int most = 0;
            for (int rank = 0; rank < texts.places(); rank++) {
                most = Math.max(most, commonAt(rank));
            }
            return most;
        }

        int sumInCommon() {
            int total = 0;
            for (int rank = 0; rank < texts.places(); rank++) {
                total += commonAt(rank);
            }
            return total;
        }

        int maximalRepeats() {
            int total = 0;
            for (int rank = 1; rank < texts.places(); rank++) {
                if (isMaximalAt(rank)) {
                    total++;
                }
            }
            return total;
        }

        /** Whether what a rank has in common with the one ahead is a maximal repeat, and told at no lower rank. */
        private boolean isMaximalAt(int rank) {
            int size = commonAt(rank);
            if (size == 0) {
                return false;
            }
            int first = rank - 1;
            while (first > 0 && commonAt(first) > size) {
                first--;
            }
            if (commonAt(first) == size) {
                return false;
            }
            int last = rank;
            while (last < many - 1 && commonAt(last + 1) >= size) {
                last++;
            }
            return isUnlikeAhead(first, last);
        }

        private boolean isUnlikeAhead(int first, int last) {
            char letter = turnedAt(first);
            if (letter == BEGINNING) {
                return true;
            }
            for (int rank = first + 1; rank <= last; rank++) {
                if (turnedAt(rank) != letter) {
                    return true;
                }
            }
            return false;
        }

        int mostInDocuments(int wanted) {
            int most = 0;
            for (int rank = 0; rank < texts.places(); rank++) {
                most = Math.max(most, mostFrom(rank, wanted));
            }
            return most;
        }

        /** The most letters that the suffixes from a rank on share until they are of so many documents. */
        private int mostFrom(int first, int wanted) {
            int slot = slotAt(first);
            int shared = texts.sizeAt(slot) - placeAt(first);
            int slots = 0;
            for (int rank = first; rank < many; rank++) {
                if (rank > first) {
                    shared = Math.min(shared, commonAt(rank));
                }
                slots |= 1 << slotAt(rank);
                if (Integer.bitCount(slots) >= wanted) {
                    return shared;
                }
            }
            return 0;
        }

        /** 0 if there is none. */
        int fewestAlone(int slot) {
            int fewest = 0;
            for (int place = 0; place < texts.sizeAt(slot); place++) {
                int rank = rankAt(slot, place);
                int size = Math.max(commonAt(rank), commonAt(rank + 1)) + 1;
                if (size <= texts.sizeAt(slot) - place && (fewest == 0 || size < fewest)) {
                    fewest = size;
                }
            }
            return fewest;
        }

        boolean isInOrder() {
            putInOrder();
            int beginnings = 0;
            for (int rank = 0; rank < many; rank++) {
                int slot = slotAt(rank);
                int place = placeAt(rank);
                if (rankAt(slot, place) != rank || rank > 0 && !isRising(rank)) {
                    return false;
                }
                if (turnedAt(rank) == BEGINNING) {
                    beginnings++;
                }
            }
            return many == texts.places() && beginnings == texts.many();
        }

        private boolean isRising(int rank) {
            return texts.compare(slotAt(rank - 1), placeAt(rank - 1), slotAt(rank), placeAt(rank)) < 0;
        }
    }

    /** All that a crash takes back: documents, snapshots, segments and the dictionary. */
    private static final class Hall {
        private final View present = new View();
        private final View[] shelves = new View[MOST_SNAPSHOTS];
        private final int[] snapshots = new int[MOST_SNAPSHOTS];
        private final Segments segmentList = new Segments();
        private final Dictionary dictionary = new Dictionary();
        private int added;
        private int taken;

        Hall() {
            for (int shelf = 0; shelf < shelves.length; shelf++) {
                shelves[shelf] = new View();
            }
            Arrays.fill(snapshots, NOWHERE);
        }

        View present() {
            return present;
        }

        Segments segmentList() {
            return segmentList;
        }

        Dictionary dictionary() {
            return dictionary;
        }

        /** Null if there is no such view. */
        View viewOf(int view) {
            return view == PRESENT ? present : shelf(shelfOf(view));
        }

        private View shelf(int shelf) {
            return shelf >= 0 && shelf < shelves.length ? shelves[shelf] : null;
        }

        boolean hasRoom() {
            return present.texts().many() < MOST_DOCUMENTS && added < MOST_ADDED;
        }

        int takeIn(Row row) {
            int document = added;
            present.texts().append(document, row);
            present.forgetOrder();
            segmentList.settle(document);
            added++;
            return document;
        }

        void widen(int slot, int place, Row row) {
            bury(slot);
            present.texts().widen(slot, place, row);
            present.forgetOrder();
            segmentList.settle(present.texts().numberAt(slot));
        }

        void narrow(int slot, int from, int less) {
            bury(slot);
            present.texts().narrow(slot, from, less);
            present.forgetOrder();
            segmentList.settle(present.texts().numberAt(slot));
        }

        void takeOut(int slot) {
            bury(slot);
            present.texts().takeOut(slot);
            present.forgetOrder();
        }

        private void bury(int slot) {
            segmentList.bury(present.texts().numberAt(slot), present.texts().sizeAt(slot));
        }

        boolean canTake() {
            return snapshotsKept() < MOST_SNAPSHOTS && taken < MOST_TAKEN;
        }

        int snapshotsKept() {
            int total = 0;
            for (int shelf = 0; shelf < snapshots.length; shelf++) {
                if (snapshots[shelf] != NOWHERE) {
                    total++;
                }
            }
            return total;
        }

        int take() {
            int number = taken;
            for (int shelf = 0; shelf < snapshots.length; shelf++) {
                View free = shelf(shelf);
                if (snapshots[shelf] == NOWHERE && free != null) {
                    free.become(present);
                    snapshots[shelf] = number;
                    taken++;
                    return number;
                }
            }
            return number;
        }

        int shelfOf(int snapshot) {
            for (int shelf = 0; shelf < snapshots.length; shelf++) {
                if (snapshots[shelf] == snapshot && snapshot != NOWHERE) {
                    return shelf;
                }
            }
            return NOWHERE;
        }

        void clearShelf(int shelf) {
            if (shelf >= 0 && shelf < snapshots.length) {
                snapshots[shelf] = NOWHERE;
            }
        }

        void become(Hall other) {
            present.become(other.present);
            for (int shelf = 0; shelf < snapshots.length; shelf++) {
                View mine = shelf(shelf);
                View others = other.shelf(shelf);
                if (mine != null && others != null) {
                    mine.become(others);
                }
                snapshots[shelf] = other.snapshots[shelf];
            }
            segmentList.become(other.segmentList);
            dictionary.become(other.dictionary);
            added = other.added;
            taken = other.taken;
        }

        boolean isWhole() {
            for (int shelf = 0; shelf < snapshots.length; shelf++) {
                View view = shelf(shelf);
                if (snapshots[shelf] != NOWHERE && view != null && !view.isInOrder()) {
                    return false;
                }
            }
            return present.isInOrder() && segmentList.houses(present.texts());
        }
    }

    /** Where documents live; the oldest segment comes first here, so that a new one goes to the end. */
    private static final class Segments {
        private final int[] living = new int[MOST_SEGMENTS];
        private final int[] gone = new int[MOST_SEGMENTS];
        private final int[] goneLetters = new int[MOST_SEGMENTS];
        private final int[] homes = new int[MOST_ADDED];
        private int many;

        Segments() {
            Arrays.fill(homes, NOWHERE);
        }

        int many() {
            return many;
        }

        private boolean isSegment(int index) {
            return index >= 0 && index < many && index < MOST_SEGMENTS;
        }

        private int homeOf(int document) {
            return document >= 0 && document < homes.length ? homes[document] : NOWHERE;
        }

        private void setHome(int document, int index) {
            if (document >= 0 && document < homes.length) {
                homes[document] = index;
            }
        }

        void settle(int document) {
            if (many < MOST_SEGMENTS) {
                many++;
                fill(many - 1, 0, 0, 0);
            }
            int newest = many - 1;
            if (isSegment(newest)) {
                living[newest]++;
                setHome(document, newest);
            }
        }

        private void fill(int index, int alive, int dead, int letters) {
            if (isSegment(index)) {
                living[index] = alive;
                gone[index] = dead;
                goneLetters[index] = letters;
            }
        }

        void bury(int document, int letters) {
            int home = homeOf(document);
            if (isSegment(home)) {
                living[home]--;
                gone[home]++;
                goneLetters[home] += letters;
            }
            setHome(document, NOWHERE);
        }

        int segmentHaving(int document) {
            return many - 1 - homeOf(document);
        }

        int deadIn(int segment) {
            return goneAt(many - 1 - segment);
        }

        private int livingAt(int index) {
            return isSegment(index) ? living[index] : 0;
        }

        private int goneAt(int index) {
            return isSegment(index) ? gone[index] : 0;
        }

        int deadLetters() {
            int total = 0;
            for (int index = 0; index < many && index < MOST_SEGMENTS; index++) {
                total += goneLetters[index];
            }
            return total;
        }

        boolean tidyOnce() {
            for (int index = many - 1; index >= 1; index--) {
                if (livingAt(index) >= livingAt(index - 1)) {
                    merge(index);
                    return true;
                }
            }
            for (int index = many - 1; index >= 0; index--) {
                if (goneAt(index) > livingAt(index)) {
                    renew(index, livingAt(index));
                    return true;
                }
            }
            return false;
        }

        /** Makes one segment of one and the older one next to it. */
        private void merge(int index) {
            int both = livingAt(index) + livingAt(index - 1);
            for (int document = 0; document < homes.length; document++) {
                if (homes[document] == index) {
                    homes[document] = index - 1;
                }
            }
            takeAway(index);
            renew(index - 1, both);
        }

        private void renew(int index, int alive) {
            if (alive > 0) {
                fill(index, alive, 0, 0);
            } else {
                takeAway(index);
            }
        }

        private void takeAway(int index) {
            if (!isSegment(index)) {
                return;
            }
            int behind = many - 1 - index;
            System.arraycopy(living, index + 1, living, index, behind);
            System.arraycopy(gone, index + 1, gone, index, behind);
            System.arraycopy(goneLetters, index + 1, goneLetters, index, behind);
            many--;
            for (int document = 0; document < homes.length; document++) {
                if (homes[document] > index) {
                    homes[document]--;
                }
            }
        }

        void become(Segments other) {
            System.arraycopy(other.living, 0, living, 0, MOST_SEGMENTS);
            System.arraycopy(other.gone, 0, gone, 0, MOST_SEGMENTS);
            System.arraycopy(other.goneLetters, 0, goneLetters, 0, MOST_SEGMENTS);
            System.arraycopy(other.homes, 0, homes, 0, MOST_ADDED);
            many = other.many;
        }

        /** Whether each document of the present lives in one segment, and nothing else lives there. */
        boolean houses(Texts texts) {
            int alive = 0;
            for (int index = 0; index < many; index++) {
                alive += livingAt(index);
            }
            for (int slot = 0; slot < texts.many(); slot++) {
                if (!isSegment(homeOf(texts.numberAt(slot)))) {
                    return false;
                }
            }
            return alive == texts.many();
        }
    }

    /** The patterns that were learnt. */
    private static final class Dictionary {
        private final Row[] patterns = new Row[MOST_PATTERNS];
        private int many;

        Dictionary() {
            for (int i = 0; i < patterns.length; i++) {
                patterns[i] = new Row();
            }
        }

        boolean isFull() {
            return many >= MOST_PATTERNS;
        }

        int store(Row row) {
            int number = many;
            many++;
            Row free = pattern(number);
            if (free != null) {
                free.become(row);
            }
            return number;
        }

        /** Null if there is no such pattern. */
        Row pattern(int number) {
            return number >= 0 && number < many && number < patterns.length ? patterns[number] : null;
        }

        int longestOn(Texts texts, int slot, int place) {
            int longest = NOWHERE;
            int most = 0;
            for (int number = 0; number < many; number++) {
                Row row = pattern(number);
                if (row != null && row.size() > most && texts.compareToRow(slot, place, row, 0) == 0) {
                    longest = number;
                    most = row.size();
                }
            }
            return longest;
        }

        void become(Dictionary other) {
            many = other.many;
            for (int number = 0; number < many; number++) {
                Row mine = pattern(number);
                Row others = other.pattern(number);
                if (mine != null && others != null) {
                    mine.become(others);
                }
            }
        }
    }

    /** Reads a regular row and finds what it tells: its signs that take letters, and which follow which. */
    private static final class Regular {
        // A set of signs of the row has a bit for each of them.
        private final int[] followers = new int[MOST_SIGNS];
        private final int[] takers = new int[KINDS_OF_LETTERS];
        private int at;
        // Of the part that was read last: the signs that can be its first and its last, whether it can be nothing.
        private int firsts;
        private int lasts;
        private boolean canBeNothing;

        /** False if the row is not regular. */
        boolean read(Row row) {
            at = 0;
            Arrays.fill(followers, 0);
            Arrays.fill(takers, 0);
            return readAlternatives(row, 0) && at == row.size();
        }

        private boolean readAlternatives(Row row, int depth) {
            if (depth > DEEPEST) {
                return false;
            }
            int begin = 0;
            int end = 0;
            boolean canBeNone = false;
            boolean goesOn = true;
            for (int i = 0; i < MOST_SIGNS && goesOn; i++) {
                if (!readItems(row, depth)) {
                    return false;
                }
                begin |= firsts;
                end |= lasts;
                canBeNone = canBeNone || canBeNothing;
                goesOn = row.sign(at) == '|';
                if (goesOn) {
                    at++;
                }
            }
            setPart(begin, end, canBeNone);
            return true;
        }

        private boolean readItems(Row row, int depth) {
            int begin = 0;
            int end = 0;
            int items = 0;
            boolean canBeNone = true;
            while (items < MOST_SIGNS && isItem(row.sign(at))) {
                if (!readItem(row, depth)) {
                    return false;
                }
                link(end, firsts);
                begin = canBeNone ? begin | firsts : begin;
                end = canBeNothing ? end | lasts : lasts;
                canBeNone = canBeNone && canBeNothing;
                items++;
            }
            setPart(begin, end, canBeNone);
            return items > 0;
        }

        private static boolean isItem(char sign) {
            return isLetter(sign) || sign == ANY || sign == '(';
        }

        private boolean readItem(Row row, int depth) {
            char sign = row.sign(at);
            int bit = 1 << at;
            at++;
            if (sign == '(') {
                if (!readAlternatives(row, depth + 1) || row.sign(at) != ')') {
                    return false;
                }
                at++;
            } else {
                setTaker(sign, bit);
                setPart(bit, bit, false);
            }
            if (row.sign(at) == '*') {
                at++;
                link(lasts, firsts);
                canBeNothing = true;
            }
            return true;
        }

        private void setPart(int begin, int end, boolean canBeNone) {
            firsts = begin;
            lasts = end;
            canBeNothing = canBeNone;
        }

        private void setTaker(char sign, int bit) {
            for (int kind = 0; kind < takers.length; kind++) {
                if (sign == ANY || sign == 'a' + kind) {
                    takers[kind] |= bit;
                }
            }
        }

        private void link(int end, int begin) {
            for (int sign = 0; sign < followers.length; sign++) {
                if ((end >>> sign & 1) != 0) {
                    followers[sign] |= begin;
                }
            }
        }

        /** How many stretches that begin at a place are what the row tells. */
        int stretchesFrom(Texts texts, int slot, int place) {
            int total = 0;
            int next = firsts;
            for (int end = place; end < texts.sizeAt(slot) && next != 0; end++) {
                int taken = next & takersOf(texts.letter(slot, end));
                if ((taken & lasts) != 0) {
                    total++;
                }
                next = followersOf(taken);
            }
            return total;
        }

        private int takersOf(char letter) {
            int kind = letter - 'a';
            return kind >= 0 && kind < takers.length ? takers[kind] : 0;
        }

        private int followersOf(int signs) {
            int all = 0;
            for (int sign = 0; sign < followers.length; sign++) {
                if ((signs >>> sign & 1) != 0) {
                    all |= followers[sign];
                }
            }
            return all;
        }
    }

    /** By how few errors one text becomes another one. */
    private static final class Edits {
        private final char[] source = new char[MOST_LETTERS];
        private final char[] target = new char[MOST_LETTERS];
        private final int[][] fewest = new int[MOST_LETTERS + 1][MOST_LETTERS + 1];
        private int sourceSize;
        private int targetSize;

        int between(Texts texts, int slot, int otherSlot) {
            setSource(texts, slot, 0, texts.sizeAt(slot));
            targetSize = Math.min(texts.sizeAt(otherSlot), MOST_LETTERS);
            for (int i = 0; i < targetSize; i++) {
                target[i] = texts.letter(otherSlot, i);
            }
            fillTable(false);
            return at(sourceSize, targetSize);
        }

        /** The fewest errors from a stretch that begins at a place to the row. */
        int fewestFrom(Texts texts, int slot, int place, Row row, boolean isSwapping) {
            setSource(texts, slot, place, row.size() + MOST_ERRORS);
            targetSize = Math.min(row.size(), MOST_LETTERS);
            for (int i = 0; i < targetSize; i++) {
                target[i] = row.sign(i);
            }
            fillTable(isSwapping);
            int least = at(1, targetSize);
            for (int i = 2; i <= sourceSize; i++) {
                least = Math.min(least, at(i, targetSize));
            }
            return least;
        }

        /** Takes letters of a document from a place on, at most so many. */
        private void setSource(Texts texts, int slot, int place, int most) {
            sourceSize = Math.min(Math.min(texts.sizeAt(slot) - place, most), MOST_LETTERS);
            for (int i = 0; i < sourceSize; i++) {
                source[i] = texts.letter(slot, place + i);
            }
        }

        private void fillTable(boolean isSwapping) {
            for (int i = 0; i <= sourceSize && i < fewest.length; i++) {
                for (int j = 0; j <= targetSize && j < fewest[i].length; j++) {
                    fewest[i][j] = errorsOf(i, j, isSwapping);
                }
            }
        }

        /** The errors from the first letters of the source to the first ones of the target. */
        private int errorsOf(int i, int j, boolean isSwapping) {
            if (i == 0 || j == 0) {
                return i + j;
            }
            int least = at(i - 1, j - 1) + (isLike(i, j) ? 0 : 1);
            least = Math.min(least, Math.min(at(i - 1, j), at(i, j - 1)) + 1);
            if (isSwapping && i > 1 && j > 1 && isLike(i - 1, j) && isLike(i, j - 1)) {
                least = Math.min(least, at(i - 2, j - 2) + 1);
            }
            return least;
        }

        private int at(int i, int j) {
            return i >= 0 && i < fewest.length && j >= 0 && j < fewest[i].length ? fewest[i][j] : 0;
        }

        private boolean isLike(int i, int j) {
            return i >= 1 && i <= source.length && j >= 1 && j <= target.length && source[i - 1] == target[j - 1];
        }
    }

    /** A document as phrases, or as pieces of another one. */
    private static final class Parse {
        private final int[] begins = new int[MOST_LETTERS];
        private final int[] sizes = new int[MOST_LETTERS];
        private final int[] firsts = new int[MOST_LETTERS];
        private int many;
        // Of the stretch that was looked for last.
        private int longest;
        private int first;

        int many() {
            return many;
        }

        int beginAt(int index) {
            return isPhrase(index) ? begins[index] : NOWHERE;
        }

        int sizeAt(int index) {
            return isPhrase(index) ? sizes[index] : 0;
        }

        int firstAt(int index) {
            return isPhrase(index) ? firsts[index] : NOWHERE;
        }

        private boolean isPhrase(int index) {
            return index >= 0 && index < many && index < MOST_LETTERS;
        }

        void read(Texts texts, int slot) {
            many = 0;
            int place = 0;
            for (int i = 0; i < MOST_LETTERS && place < texts.sizeAt(slot); i++) {
                lookFor(texts, slot, place, slot, place);
                begins[i] = place;
                sizes[i] = Math.max(longest, 1);
                firsts[i] = first;
                many++;
                place += sizes[i];
            }
        }

        int piecesBy(Texts texts, int slot, int other) {
            int total = 0;
            int place = 0;
            while (total < MOST_LETTERS && place < texts.sizeAt(slot)) {
                lookFor(texts, slot, place, other, texts.sizeAt(other));
                place += Math.max(longest, 1);
                total++;
            }
            return total;
        }

        /** Looks for the longest stretch from a place on that begins in another document ahead of an end. */
        private void lookFor(Texts texts, int slot, int place, int other, int end) {
            longest = 0;
            first = NOWHERE;
            for (int from = 0; from < end; from++) {
                int size = texts.shared(slot, place, other, from);
                if (size > longest) {
                    longest = size;
                    first = from;
                }
            }
        }
    }

    /** A document as symbols, of which pairs are made to rules. */
    private static final class Pairs {
        private final int[] symbols = new int[MOST_LETTERS];
        private int left;
        private int made;

        int left() {
            return left;
        }

        int made() {
            return made;
        }

        void read(Texts texts, int slot) {
            left = Math.min(texts.sizeAt(slot), MOST_LETTERS);
            made = 0;
            for (int i = 0; i < left; i++) {
                symbols[i] = texts.letter(slot, i) - 'a';
            }
            for (int i = 0; i < MOST_LETTERS; i++) {
                int best = bestPair();
                if (best == NOWHERE) {
                    return;
                }
                replace(symbol(best), symbol(best + 1), KINDS_OF_LETTERS + made);
                made++;
            }
        }

        private int symbol(int index) {
            return index >= 0 && index < left && index < symbols.length ? symbols[index] : NOWHERE;
        }

        private boolean isPair(int index, int one, int two) {
            return index + 1 < left && symbol(index) == one && symbol(index + 1) == two;
        }

        /** The place of the pair that becomes a rule next, NOWHERE if none does. */
        private int bestPair() {
            int best = NOWHERE;
            int most = 1;
            for (int i = 0; i + 1 < left; i++) {
                int times = timesOf(symbol(i), symbol(i + 1));
                if (times > most || times == most && best != NOWHERE && isLower(i, best)) {
                    best = i;
                    most = times;
                }
            }
            return best;
        }

        private boolean isLower(int index, int other) {
            int apart = symbol(index) - symbol(other);
            return apart < 0 || apart == 0 && symbol(index + 1) < symbol(other + 1);
        }

        private int timesOf(int one, int two) {
            int total = 0;
            for (int i = 0; i + 1 < left; i++) {
                if (isPair(i, one, two)) {
                    total++;
                    i++;
                }
            }
            return total;
        }

        private void replace(int one, int two, int rule) {
            int size = 0;
            for (int i = 0; i < left && size < symbols.length; i++) {
                boolean isOne = isPair(i, one, two);
                symbols[size] = isOne ? rule : symbol(i);
                size++;
                if (isOne) {
                    i++;
                }
            }
            left = size;
        }
    }
}
