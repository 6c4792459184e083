/** Counts checks and prints those that fail. */
final class Checks {
    private int passed;
    private int failed;

    /** Something to be called, which may throw. */
    interface Call {
        Object make() throws Throwable;
    }

    /** What a call answers, as a text; "throws." and the name of the exception if it throws. */
    static String answerOf(Call call) {
        try {
            return String.valueOf(call.make());
        } catch (java.lang.reflect.InvocationTargetException e) {
            return "throws." + e.getCause().getClass().getSimpleName();
        } catch (Throwable e) {
            return "throws." + e.getClass().getSimpleName();
        }
    }

    void due(String what, Object want, Call call) {
        same(what, String.valueOf(want), answerOf(call));
    }

    void same(String what, String want, String got) {
        if (want.equals(got)) {
            passed++;
        } else {
            failed++;
            System.out.println("wrong: " + what + " answered " + got + ", due is " + want);
        }
    }

    void isTrue(String what, boolean holds) {
        same(what, "true", String.valueOf(holds));
    }

    int passed() {
        return passed;
    }

    int failed() {
        return failed;
    }
}
