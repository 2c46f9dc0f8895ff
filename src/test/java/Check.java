/** What the tests share: it prints each answer that is not as due, and ends with exit code 1 if there was one. */
final class Check {
    static final String INDEX = "IndexOutOfBoundsException";
    static final String ARGUMENT = "IllegalArgumentException";

    /** A call whose answer or exception is looked at. */
    interface Call {
        Object answer();
    }

    /** A call without an answer. */
    interface Deed {
        void run();
    }

    private static int wrong = 0;

    private Check() {
    }

    static void due(String what, Object got, Object want) {
        if (!want.equals(got)) {
            wrong++;
            System.out.println(what + ": answered " + got + ", due is " + want);
        }
    }

    /** The answer of a call, or the plain name of the exception that it throws. */
    static Object outcome(Call call) {
        try {
            return call.answer();
        } catch (RuntimeException e) {
            return e.getClass().getSimpleName();
        }
    }

    static Object outcomeOf(Deed deed) {
        return outcome(() -> {
            deed.run();
            return "done";
        });
    }

    static void thrown(String what, String want, Deed deed) {
        due(what, outcomeOf(deed), want);
    }

    static void end() {
        System.out.println(wrong == 0 ? "all answers are as due" : wrong + " answers are not as due");
        if (wrong != 0) {
            System.exit(1);
        }
    }
}
