/** Counts what a test finds wrong, and ends the test by that. */
final class Check {
    /** A call of the face; its exception is the answer where it throws. */
    interface Call {
        Object answer();
    }

    private final String about;
    private String sentence = "";
    private int made;
    private int wrong;

    Check(String about) {
        this.about = about;
    }

    /** The document's sentence that the checks behind it hold to, so that a failure names it. */
    void sentence(String words) {
        sentence = "'" + words + "': ";
    }

    void same(String what, Object due, Object got) {
        made++;
        if (!due.equals(got)) {
            wrong++;
            System.out.println(about + ": " + sentence + what + " answered " + got + ", due is " + due);
        }
    }

    void is(String what, int due, int got) {
        same(what, (Object) due, (Object) got);
    }

    void is(String what, boolean due, boolean got) {
        same(what, (Object) due, (Object) got);
    }

    /** The exception's class itself is due, not one below it. */
    void throwsIt(String what, Class<? extends RuntimeException> due, Call call) {
        same(what, "throws." + due.getSimpleName(), answerOf(call));
    }

    static Object answerOf(Call call) {
        try {
            return call.answer();
        } catch (RuntimeException e) {
            return "throws." + e.getClass().getSimpleName();
        }
    }

    int wrongSoFar() {
        return wrong;
    }

    void end() {
        System.out.println(about + ": " + made + " checks, " + wrong + " wrong");
        if (wrong != 0) {
            System.exit(1);
        }
    }
}
