/** What the tests of a face share: it counts and prints the calls that answer wrongly. */
final class Checks {
    /** A call whose answer is a number; a boolean counts 1 or 0. */
    interface Call {
        long answer();
    }

    static final String INDEX = "IndexOutOfBoundsException";
    static final String ARGUMENT = "IllegalArgumentException";
    static final String STATE = "IllegalStateException";

    private int wrong;

    /** The answer, or the simple name of the exception that the call throws. */
    static String outcome(Call call) {
        try {
            return Long.toString(call.answer());
        } catch (RuntimeException e) {
            return e.getClass().getSimpleName();
        }
    }

    static long bit(boolean answer) {
        return answer ? 1 : 0;
    }

    void due(String what, String want, Call call) {
        String got = outcome(call);
        if (!got.equals(want)) {
            wrong++;
            System.out.println(what + " answered " + got + ", due is " + want);
        }
    }

    void due(String what, long want, Call call) {
        due(what, Long.toString(want), call);
    }

    /** The call throws this and changes nothing that the digest or the targets tell. */
    void refused(String what, String want, CourierBees town, Call call) {
        long before = town.digest();
        due(what, want, call);
        due(what + ", then digest()", before, town::digest);
    }

    void dueMean(String what, double want, double got) {
        if (got != want) {
            wrong++;
            System.out.println(what + " answered " + got + ", due is " + want);
        }
    }

    void end(String test) {
        System.out.println(test + ": " + (wrong == 0 ? "all as due" : wrong + " not as due"));
        if (wrong != 0) {
            System.exit(1);
        }
    }
}
