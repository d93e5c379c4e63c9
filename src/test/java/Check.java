/** Counts what is not as due, prints it, and ends the program with 1 if there was any. */
final class Check {
    /** A call that may throw, with its answer as a number (a boolean counts 1 or 0). */
    interface Call {
        long answer();
    }

    /** A call without an answer. */
    interface Act {
        void run();
    }

    private final String name;
    private int asked = 0;
    private int wrong = 0;

    Check(String name) {
        this.name = name;
    }

    void that(String what, boolean holds) {
        asked++;
        if (!holds) {
            wrong++;
            System.out.println(name + ": " + what);
        }
    }

    void due(String what, long want, Call call) {
        String got = told(call);
        that(what + " answered " + got + ", due is " + want, got.equals(Long.toString(want)));
    }

    void runs(String what, Act act) {
        due(what, 0, answering(act));
    }

    /** The very class is due: IllegalArgumentException has subclasses that are not. */
    void refused(String what, Class<? extends RuntimeException> want, Call call) {
        String got = told(call);
        that(what + " answered " + got + ", due is " + want.getName(), got.equals(want.getName()));
    }

    void refusedAct(String what, Class<? extends RuntimeException> want, Act act) {
        refused(what, want, answering(act));
    }

    /** The answer, or the name of what was thrown instead. */
    static String told(Call call) {
        try {
            return Long.toString(call.answer());
        } catch (RuntimeException | StackOverflowError e) {
            return e.getClass().getName();
        }
    }

    static long number(boolean answer) {
        return answer ? 1 : 0;
    }

    private static Call answering(Act act) {
        return () -> {
            act.run();
            return 0;
        };
    }

    void end() {
        System.out.println(name + ": " + (asked - wrong) + " of " + asked + " as due");
        if (wrong != 0) {
            System.exit(1);
        }
    }
}
