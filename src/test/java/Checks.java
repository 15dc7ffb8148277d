/** Counts checks and tells every one that is not as due. */
final class Checks {
    /** A call whose answer or exception is checked. */
    interface Call {
        Object answer();
    }

    private final String subject;
    private String test = "";
    private int passed;
    private int failed;

    Checks(String subject) {
        this.subject = subject;
    }

    /** The checks that follow are told as those of this test. */
    void begin(String name) {
        test = name + ": ";
    }

    void same(String what, Object due, Object got) {
        if (due.equals(got)) {
            passed++;
        } else {
            failed++;
            System.out.println(subject + ": " + test + what + " answered " + got + ", due is " + due);
        }
    }

    void outOfBounds(String what, Call call) {
        throwing(what, IndexOutOfBoundsException.class, call);
    }

    void badState(String what, Call call) {
        throwing(what, IllegalStateException.class, call);
    }

    void badArgument(String what, Call call) {
        throwing(what, IllegalArgumentException.class, call);
    }

    /** The exact class counts: the machine's own exceptions are classes below the due ones. */
    void throwing(String what, Class<?> due, Call call) {
        same(what, due.getName(), answer(call));
    }

    void answering(String what, Call call) {
        same(what + ": an exception", false, answer(call).contains("Exception"));
    }

    int failed() {
        return failed;
    }

    /** Ends the program: with 1 if a check failed, or if there was none. */
    void finish() {
        System.out.println(subject + ": " + passed + " checks passed, " + failed + " failed");
        System.exit(failed == 0 && passed > 0 ? 0 : 1);
    }

    /** The answer as a text, or the name of the exception. */
    static String answer(Call call) {
        try {
            return String.valueOf(call.answer());
        } catch (RuntimeException e) {
            return e.getClass().getName();
        }
    }
}
