import java.util.ArrayList;
import java.util.List;

/**
 * A method that throws an exception changes nothing: a run answers the same without its calls that throw, and just
 * behind each of these, all that can be asked is answered as it is without it.
 */
final class Unchanged {
    private static final int VIEWS = 20;
    private static final int DOCUMENTS = 40;
    private static final int PATTERNS = 8;

    private Unchanged() {
    }

    /** What is done to a hall before it tells all that can be asked. */
    private interface Ending {
        void make(Suffixhall hall, List<String> told);
    }

    private static final Ending[] ENDINGS = {
        (hall, told) -> {
        },
        (hall, told) -> {
            told.add(Checks.answerOf(() -> hall.add()));
            told.add(Checks.answerOf(() -> hall.keep()));
        },
        (hall, told) -> {
            told.add(Checks.answerOf(() -> hall.wipe()));
            told.add(Checks.answerOf(() -> hall.tidy()));
            told.add(Checks.answerOf(() -> hall.crash()));
        },
        (hall, told) -> {
            told.add(Checks.answerOf(() -> hall.wipe()));
            told.add(Checks.answerOf(() -> hall.type('c')));
            told.add(Checks.answerOf(() -> hall.learn()));
            told.add(Checks.answerOf(() -> hall.snapshot()));
            told.add(Checks.answerOf(() -> hall.add()));
            told.add(Checks.answerOf(() -> hall.keep()));
        },
    };

    static void check(Checks checks, Run run) {
        checkWithoutThrowing(checks, run);
        for (int i = 0; i < run.calls.size(); i++) {
            Run.Call call = run.calls.get(i);
            if (call.isThrowing()) {
                checks.same(call.where + " what is answered behind " + call.told, told(run, i), told(run, i + 1));
            }
        }
    }

    private static void checkWithoutThrowing(Checks checks, Run run) {
        Suffixhall hall = new Suffixhall();
        for (Run.Call call : run.calls) {
            if (!call.isThrowing()) {
                Run.checkAnswer(checks, call, call.answerOf(hall));
            }
        }
    }

    private static String told(Run run, int calls) {
        List<String> told = new ArrayList<>();
        for (Ending ending : ENDINGS) {
            Suffixhall hall = new Suffixhall();
            for (Run.Call call : run.calls.subList(0, calls)) {
                call.answerOf(hall);
            }
            ending.make(hall, told);
            tellAll(hall, told);
        }
        return told.toString();
    }

    private static void tellAll(Suffixhall hall, List<String> told) {
        for (int view = -1; view < VIEWS; view++) {
            int seen = view;
            String documents = Checks.answerOf(() -> hall.documents(seen));
            told.add("view " + view + " " + documents);
            if (!documents.startsWith("throws.")) {
                tellView(hall, view, told);
            }
        }
        for (int document = 0; document < DOCUMENTS; document++) {
            if (hall.has(-1, document)) {
                told.add(document + " lives in " + hall.segmentOf(document));
            }
        }
        told.add("dead ones");
        for (int segment = 0; segment < hall.segments(); segment++) {
            told.add(String.valueOf(hall.dead(segment)));
        }
        told.add(Checks.answerOf(() -> hall.cost(true)));
        told.add(Checks.answerOf(() -> hall.cost(false)));
        told.add(String.valueOf(hall.isSound()));
    }

    private static void tellView(Suffixhall hall, int view, List<String> told) {
        int letters = 0;
        for (int document = 0; document < DOCUMENTS; document++) {
            if (hall.has(view, document)) {
                int size = hall.lengthOf(view, document);
                told.add(document + " has " + size);
                letters += size;
            }
        }
        for (int rank = 0; rank < letters; rank++) {
            told.add(hall.suffixAt(view, rank, 'd') + "/" + hall.suffixAt(view, rank, 'p') + hall.turned(view, rank));
        }
        told.add(hall.checksum(view) + " " + hall.runs(view) + " " + hall.longestRepeat(view));
        for (int i = 0; i < PATTERNS; i++) {
            int pattern = i;
            told.add(Checks.answerOf(() -> hall.countOf(view, pattern)));
        }
        told.add(Checks.answerOf(() -> hall.count(view)));
        told.add(Checks.answerOf(() -> hall.matches(view)));
        told.add(Checks.answerOf(() -> hall.near(view, 1, 't')));
        told.add(Checks.answerOf(() -> hall.interval(view, 1, false)));
    }
}
