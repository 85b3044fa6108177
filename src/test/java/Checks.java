import java.util.List;
import java.util.function.Supplier;

/** What the tests of a face share: it counts and prints the calls that answer wrongly. */
final class Checks {
    /** A call whose answer is a number; a boolean counts 1 or 0. */
    interface Call {
        long answer();
    }

    /** A call on a town that is given to it. */
    interface Act {
        long on(CourierBees town);
    }

    static final String INDEX = "IndexOutOfBoundsException";
    static final String ARGUMENT = "IllegalArgumentException";
    static final String STATE = "IllegalStateException";

    private int wrong;

    /** The answer, or the simple name of the exception that the call throws. */
    static String outcome(Call call) {
        try {
            return Long.toString(call.answer());
        } catch (RuntimeException e) {
            return e.getClass().getSimpleName();
        }
    }

    static long bit(boolean answer) {
        return answer ? 1 : 0;
    }

    /** The numbers next to the row from first to last, and the ones farthest from it. */
    static int[] outside(int first, int last) {
        return new int[] {first - 1, last + 1, Integer.MIN_VALUE, Integer.MAX_VALUE};
    }

    void due(String what, String want, Call call) {
        same(what, want, outcome(call));
    }

    void due(String what, long want, Call call) {
        due(what, Long.toString(want), call);
    }

    void same(String what, String want, String got) {
        if (!got.equals(want)) {
            wrong++;
            System.out.println(what + " answered " + got + ", due is " + want);
        }
    }

    /** The call throws this and changes nothing. */
    void refused(String what, String want, Supplier<CourierBees> maker, Act act) {
        CourierBees asked = maker.get();
        due(what, want, () -> act.on(asked));
        alike("behind " + what, maker.get(), asked);
    }

    /** The call answers this and changes nothing. */
    void told(String what, long want, Supplier<CourierBees> maker, Act act) {
        refused(what, Long.toString(want), maker, act);
    }

    /** Both towns tell the same and go on alike; only the first difference is printed. */
    private void alike(String when, CourierBees twin, CourierBees asked) {
        List<String> due = Told.by(twin);
        List<String> got = Told.by(asked);
        for (int i = 0; i < due.size() && i < got.size(); i++) {
            if (!due.get(i).equals(got.get(i))) {
                same(when, due.get(i), got.get(i));
                return;
            }
        }
        same(when, due.size() + " lines", got.size() + " lines");
    }

    /** What bee() tells, from 0 on, as far as it is due. */
    void bee(String when, CourierBees town, int bee, long... due) {
        for (int what = 0; what < due.length; what++) {
            int asked = what;
            due(when + ": bee(" + bee + ", " + what + ")", due[what], () -> town.bee(bee, asked));
        }
    }

    /** What letter() tells, from 1 on: to which house it is does not change. */
    void letter(String when, CourierBees town, int letter, long lies, long carrier, long arrived,
            long taken) {
        due(when + ": where " + letter + " lies", lies, () -> town.letter(letter, 1));
        due(when + ": who carries " + letter, carrier, () -> town.letter(letter, 2));
        due(when + ": when " + letter + " arrived", arrived, () -> town.letter(letter, 3));
        due(when + ": how often " + letter + " was taken", taken, () -> town.letter(letter, 4));
    }

    /** What count() tells, from 0 on. */
    void counts(String when, CourierBees town, long... due) {
        for (int what = 0; what < due.length; what++) {
            int asked = what;
            due(when + ": count(" + what + ")", due[what], () -> town.count(asked));
        }
    }

    void dueMean(String what, double want, double got) {
        same(what, Double.toString(want), Double.toString(got));
    }

    void digest(String when, CourierBees town, int... numbers) {
        long d = 811;
        for (int x : numbers) {
            d = d * 31 + x;
        }
        due(when + ": digest()", d, town::digest);
    }

    void end(String test) {
        System.out.println(test + ": " + (wrong == 0 ? "all as due" : wrong + " not as due"));
        if (wrong != 0) {
            System.exit(1);
        }
    }
}
