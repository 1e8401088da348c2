/** Counts what is not as it is due, and what was looked at. */
final class Checks {

    /** A call whose answer or exception is looked at. */
    interface Call {
        long answer();
    }

    private static final int MOST_TOLD = 5;

    private String title = "";
    private int looks;
    private int wrong;
    private int told;

    /** What the looks from now on are for; the first few that are not as due are told with it. */
    void about(String test) {
        title = test + ": ";
        told = 0;
    }

    void due(String what, long got, long want) {
        looks++;
        if (got != want) {
            tell(what + " answered " + got + ", due is " + want);
        }
    }

    void due(String what, Object got, Object want) {
        looks++;
        if (!got.equals(want)) {
            tell(what + " answered " + got + ", due is " + want);
        }
    }

    /** The exception's class must be the very one, not one below it. */
    void dueThrow(String what, Class<? extends RuntimeException> want, Call call) {
        due(what, outcome(call), "throws " + want.getSimpleName());
    }

    static String outcome(Call call) {
        try {
            return Long.toString(call.answer());
        } catch (RuntimeException e) {
            return "throws " + e.getClass().getSimpleName();
        }
    }

    private void tell(String text) {
        wrong++;
        told++;
        if (told <= MOST_TOLD) {
            System.out.println(title + text);
        }
    }

    int looks() {
        return looks;
    }

    int wrong() {
        return wrong;
    }

    void end(String name) {
        System.out.println(name + ": " + looks + " looks, " + wrong + " not as due");
        if (wrong != 0 || looks == 0) {
            System.exit(1);
        }
    }
}
