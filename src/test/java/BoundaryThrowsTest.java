/**
 * "A call that throws changes nothing but what is said there.": every call that may throw, with
 * everything that it may throw, on an object that has languages, a bound and a solution.
 */
public final class BoundaryThrowsTest {
    private static final String SENTENCE = "A call that throws changes nothing but what is said there.";

    /** A call that is to be refused. */
    private interface CallOn {
        long answer(Scene scene);
    }

    /** Two variables of 1 and 2 letters, which one bound makes 3 together, are solved for. */
    private static final class Scene {
        final RegularSolver x = new RegularSolver();
        final int one = x.letters(0b0010);
        final int two = x.then(one, one);
        final int notOne = x.not(one);
        final int longest = Made.allOf(x, 62);
        final int notLongest = x.not(longest);
        /** Its lengths 5 and 17 can't be put together to 63. */
        final int spread = x.or(Made.allOf(x, 5), Made.allOf(x, 17));
        final int next = spread + 1;

        Scene() {
            x.variable(0, one);
            x.variable(1, two);
            x.bound(1, 1, 0, 0, 3, 3);
            x.solve(5);
        }
    }

    private final Check check = new Check("BoundaryThrowsTest");

    public static void main(String[] args) {
        BoundaryThrowsTest test = new BoundaryThrowsTest();
        test.check.each(test);
        test.check.end();
    }

    void letters() {
        nothingChanges("letters(16)", Check.ARGUMENT, s -> s.x.letters(16));
        nothingChangesWhenFull("letters(8)", s -> s.x.letters(8));
    }

    void empty() {
        nothingChangesWhenFull("empty()", s -> s.x.empty());
    }

    void then() {
        nothingChanges("then, no a", Check.ARGUMENT, s -> s.x.then(s.next, 0));
        nothingChanges("then, no b", Check.ARGUMENT, s -> s.x.then(0, s.next));
        nothingChanges("then, LARGE", Check.UNSUPPORTED, s -> s.x.then(s.longest, s.one));
        nothingChangesWhenFull("then", s -> s.x.then(0, 0));
    }

    void or() {
        nothingChanges("or, no a", Check.ARGUMENT, s -> s.x.or(s.next, 0));
        nothingChanges("or, no b", Check.ARGUMENT, s -> s.x.or(0, s.next));
        nothingChanges("or, LARGE", Check.UNSUPPORTED, s -> s.x.or(s.longest, s.one));
        nothingChangesWhenFull("or", s -> s.x.or(0, 0));
    }

    void and() {
        nothingChanges("and, no a", Check.ARGUMENT, s -> s.x.and(s.next, 0));
        nothingChanges("and, no b", Check.ARGUMENT, s -> s.x.and(0, s.next));
        nothingChanges("and, LARGE", Check.UNSUPPORTED, s -> s.x.and(s.notLongest, s.notOne));
        nothingChangesWhenFull("and", s -> s.x.and(0, 0));
    }

    void not() {
        nothingChanges("not, no a", Check.ARGUMENT, s -> s.x.not(s.next));
        nothingChangesWhenFull("not", s -> s.x.not(0));
    }

    void again() {
        nothingChanges("again, no a", Check.ARGUMENT, s -> s.x.again(s.next));
        nothingChanges("again, LARGE", Check.UNSUPPORTED, s -> s.x.again(s.spread));
        nothingChangesWhenFull("again", s -> s.x.again(0));
    }

    void automaton() {
        nothingChanges("automaton, no a", Check.ARGUMENT, s -> s.x.automaton(s.next, 0, 0));
        nothingChanges("automaton, no what", Check.ARGUMENT, s -> s.x.automaton(0, 4, 0));
        nothingChanges("automaton, no state to go on from", Check.INDEX, s -> s.x.automaton(0, 2, 12));
        nothingChanges("automaton, no state", Check.INDEX, s -> s.x.automaton(0, 3, 3));
    }

    void questions() {
        nothingChanges("has, no a", Check.ARGUMENT, s -> Check.number(s.x.has(s.next, 0, 0)));
        nothingChanges("has, n", Check.ARGUMENT, s -> Check.number(s.x.has(0, 32, 0)));
        nothingChanges("has, word", Check.ARGUMENT, s -> Check.number(s.x.has(0, 1, 4)));
        nothingChanges("words, no a", Check.ARGUMENT, s -> s.x.words(s.next, 0));
        nothingChanges("words, n", Check.ARGUMENT, s -> s.x.words(0, 1001));
        nothingChanges("first, no a", Check.ARGUMENT, s -> s.x.first(s.next, 0));
        nothingChanges("first, n", Check.ARGUMENT, s -> s.x.first(0, 32));
        nothingChanges("first, none", Check.UNSUPPORTED, s -> s.x.first(0, 3));
        nothingChanges("shortest, no a", Check.ARGUMENT, s -> s.x.shortest(s.next));
        nothingChanges("within, no a", Check.ARGUMENT, s -> Check.number(s.x.within(s.next, 0)));
        nothingChanges("within, no b", Check.ARGUMENT, s -> Check.number(s.x.within(0, s.next)));
    }

    void variable() {
        nothingChanges("variable(4, ..)", Check.ARGUMENT, s -> variable(s, 4, s.two));
        nothingChanges("variable(-1, ..)", Check.ARGUMENT, s -> variable(s, -1, s.two));
        nothingChanges("variable, no a", Check.ARGUMENT, s -> variable(s, 0, s.next));
        nothingChanges("variable(0, -2)", Check.ARGUMENT, s -> variable(s, 0, -2));
    }

    void bound() {
        nothingChanges("bound, p", Check.ARGUMENT, s -> s.x.bound(101, 1, 1, 1, 9, 9));
        nothingChanges("bound, q", Check.ARGUMENT, s -> s.x.bound(1, -101, 1, 1, 9, 9));
        nothingChanges("bound, r", Check.ARGUMENT, s -> s.x.bound(1, 1, 101, 1, 9, 9));
        nothingChanges("bound, s", Check.ARGUMENT, s -> s.x.bound(1, 1, 1, -101, 9, 9));
        check.sentence(SENTENCE);
        Scene scene = new Scene();
        for (int k = 2; k <= 8; k++) {
            scene.x.bound(0, 0, 0, 0, 0, 0);
        }
        check.refused("a ninth", Check.INDEX, () -> scene.x.bound(1, 1, 1, 1, 9, 9));
        solutionStands(scene, "behind a ninth bound");
        check.refused("and still a ninth", Check.INDEX, () -> scene.x.bound(1, 1, 1, 1, 9, 9));
        check.due("the eight hold", 1, () -> Check.number(scene.x.solve(5)));
        solutionStands(scene, "behind a ninth bound, solved again");
    }

    void solve() {
        nothingChanges("solve(32)", Check.ARGUMENT, s -> Check.number(s.x.solve(32)));
        nothingChanges("solve(-1)", Check.ARGUMENT, s -> Check.number(s.x.solve(-1)));
    }

    void lengthAndWord() {
        nothingChanges("length(4)", Check.ARGUMENT, s -> s.x.length(4));
        nothingChanges("length(-1)", Check.ARGUMENT, s -> s.x.length(-1));
        nothingChanges("word(4)", Check.ARGUMENT, s -> s.x.word(4));
        nothingChanges("word(-1)", Check.ARGUMENT, s -> s.x.word(-1));
        check.sentence(SENTENCE);
        Scene scene = new Scene();
        scene.x.clear();
        scene.x.variable(2, scene.two);
        check.due("the first bound", 1, () -> scene.x.bound(0, 0, 1, 0, 2, 2));
        check.refused("length, no solution", Check.STATE, () -> scene.x.length(2));
        check.refused("word, no solution", Check.STATE, () -> scene.x.word(2));
        check.refused("they make none", Check.STATE, () -> scene.x.length(2));
        check.due("the second bound", 2, () -> scene.x.bound(0, 0, 1, 0, 2, 2));
        check.due("solve", 1, () -> Check.number(scene.x.solve(5)));
        check.due("the variable has its language", 2, () -> scene.x.length(2));
    }

    private static long variable(Scene scene, int v, int a) {
        scene.x.variable(v, a);
        return 0;
    }

    private void nothingChanges(String what, Class<? extends RuntimeException> want, CallOn call) {
        check.sentence(SENTENCE);
        Scene scene = new Scene();
        RegularSolver x = scene.x;
        check.refused(what, want, () -> call.answer(scene));
        solutionStands(scene, "behind " + what);
        languagesStand(scene, "behind " + what);
        check.refused("no language came, behind " + what, Check.ARGUMENT, () -> x.shortest(scene.next));
        check.due("the next language, behind " + what, scene.next, () -> x.empty());
        check.due("the next bound, behind " + what, 2, () -> x.bound(0, 0, 0, 0, 0, 0));
        check.due("solve, behind " + what, 1, () -> Check.number(x.solve(5)));
        solutionStands(scene, "solved again behind " + what);
    }

    /** The same for calls that are refused because there are 60 languages. */
    private void nothingChangesWhenFull(String what, CallOn call) {
        check.sentence(SENTENCE);
        Scene scene = new Scene();
        RegularSolver x = scene.x;
        Made.fill(x);
        check.refused(what + ", full", Check.INDEX, () -> call.answer(scene));
        solutionStands(scene, "behind " + what + ", full");
        languagesStand(scene, "behind " + what + ", full");
        check.due("language 59 is the empty word", 0, () -> x.shortest(59));
        check.due("and has no other", 0, () -> x.words(59, 1));
        check.refused("no language came", Check.ARGUMENT, () -> x.shortest(60));
        check.refused(what + ", still full", Check.INDEX, () -> call.answer(scene));
    }

    private void solutionStands(Scene scene, String when) {
        check.due("length(0), " + when, 1, () -> scene.x.length(0));
        check.due("length(1), " + when, 2, () -> scene.x.length(1));
        check.due("length(2), " + when, 0, () -> scene.x.length(2));
        check.due("word(0), " + when, 0b01, () -> scene.x.word(0));
        check.due("word(1), " + when, 0b0101, () -> scene.x.word(1));
    }

    private void languagesStand(Scene scene, String when) {
        check.due("states of one, " + when, 3, () -> scene.x.automaton(scene.one, 0, 0));
        check.due("its word, " + when, 1, () -> scene.x.first(scene.one, 1));
        check.due("states of two, " + when, 4, () -> scene.x.automaton(scene.two, 0, 0));
        check.due("states of the longest, " + when, 64, () -> scene.x.automaton(scene.longest, 0, 0));
        check.due("its length, " + when, 62, () -> scene.x.shortest(scene.longest));
        check.due("the other words, " + when, 3, () -> scene.x.words(scene.notOne, 1));
        check.due("the other words, " + when, 1, () -> scene.x.words(scene.notLongest, 0));
    }
}
