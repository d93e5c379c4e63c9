import java.lang.reflect.InvocationTargetException;
import java.lang.reflect.Method;
import java.lang.reflect.Modifier;
import java.util.Arrays;
import java.util.Comparator;

/** Counts what is not as due, prints it, and ends the program with 1 if there was any. */
final class Check {
    static final Class<IllegalArgumentException> ARGUMENT = IllegalArgumentException.class;
    static final Class<IndexOutOfBoundsException> INDEX = IndexOutOfBoundsException.class;
    static final Class<UnsupportedOperationException> UNSUPPORTED = UnsupportedOperationException.class;
    static final Class<IllegalStateException> STATE = IllegalStateException.class;
    static final int LOWEST = Integer.MIN_VALUE;
    static final int HIGHEST = Integer.MAX_VALUE;

    /** A call that may throw, with its answer as a number (a boolean counts 1 or 0). */
    interface Call {
        long answer();
    }

    /** A call of one argument, for arguments that are all to be answered alike. */
    interface CallOf {
        long answer(int argument);
    }

    /** A call without an answer. */
    interface Act {
        void run();
    }

    private final String name;
    private String running = "";
    private String words = "";
    private int tests = 0;
    private int asked = 0;
    private int wrong = 0;

    Check(String name) {
        this.name = name;
    }

    /**
     * Runs every method of a test that has no parameters and is not private, each as a test of its
     * own: none can be forgotten, and one that breaks off keeps no other from being run.
     */
    void each(Object test) {
        Method[] methods = test.getClass().getDeclaredMethods();
        Arrays.sort(methods, Comparator.comparing(Method::getName));
        for (Method method : methods) {
            int kind = method.getModifiers();
            if (method.getParameterCount() == 0 && !Modifier.isPrivate(kind) && !Modifier.isStatic(kind)) {
                running = "." + method.getName();
                words = "";
                tests++;
                invoke(test, method);
            }
        }
        running = "";
        words = "";
        that("there are tests", tests > 0);
    }

    private void invoke(Object test, Method method) {
        int before = asked;
        try {
            method.invoke(test);
        } catch (InvocationTargetException e) {
            that("broke off: " + e.getCause(), false);
        } catch (IllegalAccessException e) {
            that("could not be run: " + e, false);
        }
        that("asks for something", asked > before);
    }

    /** The document's words that the running test is for. */
    void sentence(String quoted) {
        words = " \"" + quoted + "\"";
    }

    void that(String what, boolean holds) {
        asked++;
        if (!holds) {
            wrong++;
            System.out.println(name + running + words + ": " + what);
        }
    }

    void due(String what, long want, Call call) {
        String got = told(call);
        that(what + " answered " + got + ", due is " + want, got.equals(Long.toString(want)));
    }

    void runs(String what, Act act) {
        due(what, 0, answering(act));
    }

    /** The very class is due: IllegalArgumentException has subclasses that are not. */
    void refused(String what, Class<? extends RuntimeException> want, Call call) {
        String got = told(call);
        that(what + " answered " + got + ", due is " + want.getName(), got.equals(want.getName()));
    }

    void refusedAct(String what, Class<? extends RuntimeException> want, Act act) {
        refused(what, want, answering(act));
    }

    void eachRefused(String what, Class<? extends RuntimeException> want, int[] arguments, CallOf call) {
        for (int argument : arguments) {
            refused(what + " of " + argument, want, () -> call.answer(argument));
        }
    }

    /** The successors of all states in a row, and the set of last states. */
    void automaton(RegularSolver x, int a, String next, long last) {
        String[] row = next.split(" ");
        int states = row.length / 4;
        due("states of " + a, states, () -> x.automaton(a, 0, 0));
        due("last states of " + a, Long.bitCount(last), () -> x.automaton(a, 1, 0));
        for (int k = 0; k < row.length; k++) {
            int at = k;
            due("automaton(" + a + ", 2, " + k + ")", Long.parseLong(row[k]), () -> x.automaton(a, 2, at));
        }
        for (int k = 0; k < states; k++) {
            int at = k;
            due("automaton(" + a + ", 3, " + k + ")", last >> k & 1, () -> x.automaton(a, 3, at));
        }
    }

    /** The lengths of the solution up to m; no lengths: there is none. */
    void solution(RegularSolver x, int m, int... lengths) {
        due("solve(" + m + ")", lengths.length == 0 ? 0 : 1, () -> number(x.solve(m)));
        for (int v = 0; v < lengths.length; v++) {
            int at = v;
            due("solve(" + m + "), length(" + v + ")", lengths[v], () -> x.length(at));
        }
        if (lengths.length == 0) {
            refused("solve(" + m + "), length(0)", STATE, () -> x.length(0));
        }
    }

    /** The answer, or the name of what was thrown instead. */
    static String told(Call call) {
        try {
            return Long.toString(call.answer());
        } catch (RuntimeException | StackOverflowError e) {
            return e.getClass().getName();
        }
    }

    static long number(boolean answer) {
        return answer ? 1 : 0;
    }

    static Call answering(Act act) {
        return () -> {
            act.run();
            return 0;
        };
    }

    void end() {
        String count = tests == 0 ? "" : tests + " tests, ";
        System.out.println(name + ": " + count + (asked - wrong) + " of " + asked + " as due");
        if (wrong != 0) {
            System.exit(1);
        }
    }
}
