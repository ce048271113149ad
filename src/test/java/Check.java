/** Counts the answers that are not as due; every test ends through finish(). */
final class Check {
    interface Call {
        Object answer();
    }

    private int wrong;
    private int asked;

    void due(String call, Object want, Call made) {
        asked++;
        Object got = answerOf(made);
        if (!got.equals(want)) {
            wrong++;
            System.out.println(call + " answered " + got + ", due is " + want);
        }
    }

    /** An exception is told by its name, so that an answer and an exception are compared alike. */
    static Object answerOf(Call made) {
        try {
            return made.answer();
        } catch (RuntimeException e) {
            return "throws." + e.getClass().getSimpleName();
        }
    }

    void finish(String test) {
        System.out.println(test + ": " + asked + " answers, " + wrong + " wrong");
        if (wrong != 0 || asked == 0) {
            System.exit(1);
        }
    }
}
