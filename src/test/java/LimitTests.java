import java.util.ArrayList;
import java.util.List;

/** What a run of calls in a file would tell too long: limits, states left alone by throwing calls, and the room. */
final class LimitTests {
    private LimitTests() {
    }

    static void check(Checks checks) {
        documentsInAll(checks);
        snapshotsInAll(checks);
        numbersAfterCrash(checks);
        manySegments(checks);
        afterTheLastCall(checks);
        throwingChangesNothing(checks);
        fullHall(checks);
        room(checks);
    }

    private static void write(Suffixhall hall, String signs) {
        hall.wipe();
        for (char sign : signs.toCharArray()) {
            hall.type(sign);
        }
    }

    private static void addText(Suffixhall hall, String letters) {
        write(hall, letters);
        hall.add();
    }

    private static void documentsInAll(Checks checks) {
        Suffixhall hall = new Suffixhall();
        for (int i = 0; i < 40; i++) {
            int number = i;
            write(hall, "a");
            checks.due("add of document " + i, number, () -> hall.add());
            checks.due("documents with " + i, Math.min(i + 1, 12), () -> hall.documents(-1));
            if (i >= 11) {
                write(hall, "b");
                if (i < 39) {
                    checks.due("a 13th document", "throws.IllegalStateException", () -> hall.add());
                }
                checks.due("the row after it", 1, () -> hall.wipe());
                checks.due("remove of " + (i - 11), 11, () -> hall.remove(number - 11));
            }
        }
        write(hall, "a");
        checks.due("a 41st document", "throws.IllegalStateException", () -> hall.add());
        checks.due("documents after it", 11, () -> hall.documents(-1));
        write(hall, "a.");
        checks.due("a row that is not plain first", "throws.UnsupportedOperationException", () -> hall.add());
        checks.due("the first one left", true, () -> hall.has(-1, 29));
        checks.due("the last one", true, () -> hall.has(-1, 39));
        checks.due("one that went", false, () -> hall.has(-1, 28));
    }

    private static void snapshotsInAll(Checks checks) {
        Suffixhall hall = new Suffixhall();
        addText(hall, "ab");
        for (int i = 0; i < 6; i++) {
            checks.due("snapshot " + i, i, () -> hall.snapshot());
        }
        checks.due("a 7th snapshot", "throws.IllegalStateException", () -> hall.snapshot());
        for (int i = 6; i < 20; i++) {
            int number = i;
            checks.due("drop before " + i, 5, () -> hall.drop(number - 6));
            checks.due("snapshot " + i, i, () -> hall.snapshot());
            checks.due("its document", 2, () -> hall.lengthOf(number, 0));
            checks.due("the dropped one", "throws.IndexOutOfBoundsException", () -> hall.documents(number - 6));
        }
        checks.due("drop of 19", 5, () -> hall.drop(19));
        checks.due("a 21st snapshot", "throws.IllegalStateException", () -> hall.snapshot());
        checks.due("the number 20", "throws.IndexOutOfBoundsException", () -> hall.documents(20));
        checks.due("changes", 36, () -> hall.keep());
    }

    private static void numbersAfterCrash(Checks checks) {
        Suffixhall hall = new Suffixhall();
        for (int turn = 0; turn < 4; turn++) {
            for (int i = 0; i < 20; i++) {
                addText(hall, "ab");
                hall.remove(i);
            }
            checks.due("snapshot before a crash", 0, () -> hall.snapshot());
            checks.due("crash " + turn, 41, () -> hall.crash());
            checks.due("segments after it", 0, () -> hall.segments());
        }
        addText(hall, "ab");
        checks.due("the number given again", true, () -> hall.has(-1, 0));
        checks.due("the snapshot number given again", 0, () -> hall.snapshot());
    }

    private static void manySegments(Checks checks) {
        Suffixhall hall = new Suffixhall();
        int made = 0;
        for (int i = 0; i < 12; i++) {
            addText(hall, "abcabcabcab");
            made++;
        }
        for (int document = 0; document < 12; document++) {
            for (int i = 0; i < 10; i++) {
                hall.cut(document, 0, 1);
                made++;
            }
        }
        int all = made;
        checks.due("many segments", all, () -> hall.segments());
        checks.due("the oldest of them", 1, () -> hall.dead(all - 1));
        checks.due("behind it", "throws.IndexOutOfBoundsException", () -> hall.dead(all));
        write(hall, "a");
        checks.due("letters of all", 12 * 66, () -> hall.cost(false));
        checks.due("the segment of the last", 0, () -> hall.segmentOf(11));
        checks.due("the segment of the first", 110, () -> hall.segmentOf(0));
        int tidied = 0;
        while (tidied < 300 && hall.tidy()) {
            tidied++;
        }
        checks.isTrue("tidying ends", tidied < 300);
        checks.due("one segment is left", 1, () -> hall.segments());
        checks.due("without dead ones", 0, () -> hall.dead(0));
        checks.due("letters of all after it", 12, () -> hall.cost(false));
        checks.due("sound", true, () -> hall.isSound());
    }

    /** What such calls answer is free, but not that the machine throws. */
    private static void afterTheLastCall(Checks checks) {
        Suffixhall hall = new Suffixhall();
        addText(hall, "a");
        for (int i = 0; i < 700; i++) {
            write(hall, "ab");
            hall.insert(0, 0);
            hall.cut(0, 0, 2);
        }
        for (int i = 0; i < 1500; i++) {
            hall.tidy();
        }
        checks.due("the length after them", 1, () -> hall.lengthOf(-1, 0));
        checks.due("sound after them", true, () -> hall.isSound());
    }

    private static String stateOf(Suffixhall hall) {
        List<String> told = new ArrayList<>();
        for (int view = -1; view < 21; view++) {
            int seen = view;
            told.add(Checks.answerOf(() -> hall.documents(seen)));
            told.add(Checks.answerOf(() -> hall.checksum(seen)));
            for (int i = 0; i < 9; i++) {
                int pattern = i;
                told.add(Checks.answerOf(() -> hall.countOf(seen, pattern)));
            }
        }
        for (int i = 0; i < 40; i++) {
            int number = i;
            told.add(Checks.answerOf(() -> hall.segmentOf(number)));
            told.add(Checks.answerOf(() -> hall.dead(number)));
        }
        told.add(String.valueOf(hall.segments()));
        told.add(Checks.answerOf(() -> hall.cost(true)));
        told.add(Checks.answerOf(() -> hall.cost(false)));
        told.add(Checks.answerOf(() -> hall.count(-1)));
        return told.toString();
    }

    private static void unchanged(Checks checks, Suffixhall hall, String row, String exception, Checks.Call call) {
        write(hall, row);
        String before = stateOf(hall);
        checks.due("with the row " + row, "throws." + exception, call);
        checks.same("the state after " + exception + " with the row " + row, before, stateOf(hall));
        checks.due("the row after it", row.length(), () -> hall.wipe());
    }

    private static void throwingChangesNothing(Checks checks) {
        Suffixhall hall = new Suffixhall();
        addText(hall, "abcab");
        addText(hall, "dd");
        write(hall, "ab");
        hall.learn();
        hall.snapshot();
        hall.cut(0, 1, 1);
        checks.due("changes", 5, () -> hall.keep());
        unchanged(checks, hall, "ab", "IllegalArgumentException", () -> hall.type('f'));
        unchanged(checks, hall, "aaaaaaaaaabbbbbbbbbb", "IllegalStateException", () -> hall.type('a'));
        unchanged(checks, hall, "a*", "UnsupportedOperationException", () -> hall.add());
        unchanged(checks, hall, "", "UnsupportedOperationException", () -> hall.add());
        unchanged(checks, hall, "a", "IndexOutOfBoundsException", () -> hall.insert(2, 0));
        unchanged(checks, hall, "a.", "UnsupportedOperationException", () -> hall.insert(0, 0));
        unchanged(checks, hall, "a", "IllegalArgumentException", () -> hall.insert(0, 5));
        unchanged(checks, hall, "a", "IndexOutOfBoundsException", () -> hall.cut(-1, 0, 1));
        unchanged(checks, hall, "a", "IllegalArgumentException", () -> hall.cut(0, 0, 4));
        unchanged(checks, hall, "a", "IndexOutOfBoundsException", () -> hall.remove(7));
        unchanged(checks, hall, "a", "IndexOutOfBoundsException", () -> hall.drop(1));
        unchanged(checks, hall, "a|b", "UnsupportedOperationException", () -> hall.learn());
        for (int i = 1; i < 6; i++) {
            hall.snapshot();
        }
        unchanged(checks, hall, "a", "IllegalStateException", () -> hall.snapshot());
        write(hall, "b");
        for (int i = 1; i < 8; i++) {
            hall.learn();
        }
        unchanged(checks, hall, "c", "IllegalStateException", () -> hall.learn());
        for (int i = 2; i < 12; i++) {
            addText(hall, "e");
        }
        unchanged(checks, hall, "c", "IllegalStateException", () -> hall.add());
        checks.due("only what did not throw counts", 22, () -> hall.crash());
        checks.due("and one more keep", 0, () -> hall.keep());
    }

    /** The dearest calls on as many letters as can be. */
    private static void fullHall(Checks checks) {
        fullHallOf(checks, "aaaaaaaaaaaaaaaaaaaa", 21);
        fullHallOf(checks, "abacabadabacabaeabac", 2);
    }

    private static void fullHallOf(Checks checks, String letters, int timesInEach) {
        Suffixhall hall = new Suffixhall();
        for (int i = 0; i < 12; i++) {
            addText(hall, letters);
            write(hall, letters);
            hall.insert(i, 20);
        }
        write(hall, "a");
        checks.due("a 41st letter", "throws.IllegalArgumentException", () -> hall.insert(0, 40));
        write(hall, "(((((.*)*)*)*)*)*");
        checks.due("all stretches", 12 * 820, () -> hall.matches(-1));
        checks.due("sound", true, () -> hall.isSound());
        checks.due("longest repeat", 40, () -> hall.longestRepeat(-1));
        checks.due("in all documents", 40, () -> hall.common(-1, 12));
        checks.due("in more than all", 0, () -> hall.common(-1, 13));
        checks.due("nothing alone", "throws.NoSuchElementException", () -> hall.unique(-1, 3));
        checks.due("pieces", 1, () -> hall.pieces(-1, 3, 4));
        checks.due("distance", 0, () -> hall.distance(-1, 3, 4));
        checks.due("the last rank", "throws.NoSuchElementException", () -> hall.turned(-1, 480));
        write(hall, letters);
        checks.due("times", 12 * timesInEach, () -> hall.count(-1));
        checks.due("times without errors", 12 * timesInEach, () -> hall.near(-1, 0, 't'));
        checks.due("the end of all steps", 12 * timesInEach,
            () -> hall.interval(-1, 20, true) - hall.interval(-1, 20, false));
    }

    /** All calls of a run live in one room: what is made is made with the object, and used again. */
    private static void room(Checks checks) {
        com.sun.management.ThreadMXBean bean =
            (com.sun.management.ThreadMXBean) java.lang.management.ManagementFactory.getThreadMXBean();
        // The first run loads the classes of the tests, too.
        longRun();
        long before = bean.getThreadAllocatedBytes(Thread.currentThread().getId());
        longRun();
        long bytes = bean.getThreadAllocatedBytes(Thread.currentThread().getId()) - before;
        checks.isTrue("a run makes no more than 300000 bytes, but " + bytes, bytes < 300_000);
    }

    private static int longRun() {
        Suffixhall hall = new Suffixhall();
        for (int i = 0; i < 8; i++) {
            addText(hall, "abacabadab");
        }
        hall.keep();
        write(hall, "(a|b)*c");
        int total = 0;
        for (int i = 0; i < 40; i++) {
            total += hall.snapshot() + hall.matches(-1) + hall.maximal(0) + hall.rules(-1, 3, true);
            total += hall.phrases(0, 2) + hall.distance(0, 1, 2) + hall.cut(1, 2, 3) + hall.remove(3);
            total += (hall.tidy() ? 1 : 0) + hall.crash() + hall.keep();
        }
        return total;
    }
}
