/** Counts checks and tells every one that is not as due. */
final class Checks {
    /** A call whose answer or exception is checked. */
    interface Call {
        Object answer();
    }

    private final String subject;
    private int passed;
    private int failed;

    Checks(String subject) {
        this.subject = subject;
    }

    void same(String what, Object due, Object got) {
        if (due.equals(got)) {
            passed++;
        } else {
            failed++;
            System.out.println(subject + ": " + what + " answered " + got + ", due is " + due);
        }
    }

    void outOfBounds(String what, Call call) {
        throwing(what, IndexOutOfBoundsException.class, call);
    }

    void badState(String what, Call call) {
        throwing(what, IllegalStateException.class, call);
    }

    void badArgument(String what, Call call) {
        throwing(what, IllegalArgumentException.class, call);
    }

    int failed() {
        return failed;
    }

    /** Ends the program: with 1 if a check failed, or if there was none. */
    void finish() {
        System.out.println(subject + ": " + passed + " checks passed, " + failed + " failed");
        System.exit(failed == 0 && passed > 0 ? 0 : 1);
    }

    private void throwing(String what, Class<?> due, Call call) {
        same(what + " throws", due.getName(), nameOfThrown(call));
    }

    /** The exact class counts: the machine's own exceptions are classes below the due ones. */
    private static String nameOfThrown(Call call) {
        try {
            return "nothing, but answers " + call.answer();
        } catch (RuntimeException e) {
            return e.getClass().getName();
        }
    }
}
