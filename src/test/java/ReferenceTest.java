import java.util.ArrayList;
import java.util.List;
import java.util.Random;

/** Long mixed runs of calls, ordinary and wrong ones, answered as the plain second program does. */
public final class ReferenceTest {
    private static final int RUNS = 400;
    private static final int CALLS = 512;
    private static final int SEARCH_RUNS = 100;
    private static final int SEARCHES = 20;

    private final Check check = new Check("ReferenceTest");
    private Random random = new Random(1);
    private RegularSolver solver = new RegularSolver();
    private Reference reference = new Reference();
    private int run = 0;
    private int solved = 0;
    private int unsolved = 0;

    public static void main(String[] args) {
        ReferenceTest test = new ReferenceTest();
        int reachedTooMany = 0;
        int statesTooMany = 0;
        for (int run = 1; run <= RUNS; run++) {
            test.oneRun(run);
            reachedTooMany += test.reference.tooManyReached;
            statesTooMany += test.reference.tooManyStates;
        }
        // Runs that miss these cases would say nothing about them.
        test.check.that("runs meet ways that are too long: " + reachedTooMany, reachedTooMany > 50);
        test.check.that("runs meet automata that are too large: " + statesTooMany, statesTooMany > 50);
        test.check.that("runs solve: " + test.solved, test.solved > 200);
        test.check.that("runs fail to solve: " + test.unsolved, test.unsolved > 200);
        test.searches();
        test.check.end();
    }

    private void searches() {
        solved = 0;
        unsolved = 0;
        for (int number = RUNS + 1; number <= RUNS + SEARCH_RUNS; number++) {
            searchRun(number);
        }
        check.that("searches solve: " + solved, solved > 200);
        check.that("searches fail to solve: " + unsolved, unsolved > 200);
    }

    private void begin(int number) {
        run = number;
        random = new Random(number);
        solver = new RegularSolver();
        reference = new Reference();
    }

    private void oneRun(int number) {
        begin(number);
        // Runs that fill all 60 places at once would never get far enough to make large languages.
        int makeOf = 2 + random.nextInt(6);
        for (int k = 0; k < 4; k++) {
            letters(1 << k);
        }
        for (int k = 0; k < number % 4; k++) {
            makeWide();
        }
        int made = reference.count();
        for (int k = made; k < CALLS; k++) {
            if (random.nextInt(makeOf) == 0) {
                makeCall();
            } else if (random.nextBoolean()) {
                askCall();
            } else {
                solverCall();
            }
        }
        compareLanguages();
    }

    /** Many bounds at once, round some lengths, so that solutions are not only among short words. */
    private void searchRun(int number) {
        begin(number);
        letters(15);
        again(0);
        then(0, 0);
        then(2, 0);
        again(2);
        again(3);
        then(4, 0);
        not(5);
        for (int k = 0; k < SEARCHES; k++) {
            clear();
            int m = 5 + random.nextInt(12);
            int[] lengths = new int[4];
            for (int v = 0; v < 4; v++) {
                variable(v, random.nextInt(reference.count()));
                lengths[v] = random.nextInt(m + 1);
            }
            int bounds = 1 + random.nextInt(8);
            for (int i = 0; i < bounds; i++) {
                boundRound(lengths, 1 + random.nextInt(random.nextBoolean() ? 4 : 100));
            }
            solveCall(m);
        }
    }

    private void boundRound(int[] lengths, int greatest) {
        int[] factors = new int[4];
        int sum = 0;
        for (int v = 0; v < 4; v++) {
            factors[v] = random.nextInt(3) == 0 ? 0 : random.nextInt(2 * greatest + 1) - greatest;
            sum += factors[v] * lengths[v];
        }
        int width = 1 + random.nextInt(10 * greatest);
        int least = random.nextInt(4) == 0 ? Integer.MIN_VALUE : sum - random.nextInt(width);
        int most = random.nextInt(4) == 0 ? Integer.MAX_VALUE : sum + random.nextInt(width);
        bound(factors, least, most);
    }

    /** Languages with many states, so that ways and automata come near their limits. */
    private void makeWide() {
        letters(1 + random.nextInt(15));
        int part = reference.count() - 1;
        letters(15);
        int any = reference.count() - 1;
        if (random.nextBoolean()) {
            again(any);
            then(reference.count() - 1, part);
        }
        int steps = 1 + random.nextInt(5);
        for (int k = 0; k < steps; k++) {
            int made = reference.count() - 1;
            then(made, random.nextBoolean() ? any : random.nextBoolean() ? made : part);
        }
        if (random.nextBoolean()) {
            again(reference.count() - 1);
        }
    }

    private void makeCall() {
        int a = anyLanguage();
        int b = anyLanguage();
        switch (random.nextInt(14)) {
            case 0:
                letters(random.nextInt(30) == 0 ? wild() : random.nextInt(16));
                break;
            case 1:
                if (random.nextInt(4) == 0) {
                    same("empty()", () -> solver.empty(), () -> reference.empty());
                }
                break;
            case 2, 3, 4, 5:
                then(a, b);
                break;
            case 6, 7, 8:
                same("or(" + a + ", " + b + ")", () -> solver.or(a, b), () -> reference.or(a, b));
                break;
            case 9:
                same("and(" + a + ", " + b + ")", () -> solver.and(a, b), () -> reference.and(a, b));
                break;
            case 10:
                not(a);
                break;
            default:
                again(a);
                break;
        }
    }

    private void then(int a, int b) {
        same("then(" + a + ", " + b + ")", () -> solver.then(a, b), () -> reference.then(a, b));
    }

    private void not(int a) {
        same("not(" + a + ")", () -> solver.not(a), () -> reference.not(a));
    }

    private void again(int a) {
        same("again(" + a + ")", () -> solver.again(a), () -> reference.again(a));
    }

    private void letters(int set) {
        same("letters(" + set + ")", () -> solver.letters(set), () -> reference.letters(set));
    }

    private void askCall() {
        int a = anyLanguage();
        int b = anyLanguage();
        int n = random.nextInt(20) == 0 ? wild() : random.nextInt(33);
        int counted = random.nextInt(20) == 0 ? 990 + random.nextInt(20) : n;
        int what = random.nextInt(20) == 0 ? wild() : random.nextInt(4);
        int k = random.nextInt(20) == 0 ? wild() : random.nextInt(80) - 2;
        long word = anyWord(n);
        switch (random.nextInt(6)) {
            case 0:
                same("automaton(" + a + ", " + what + ", " + k + ")",
                        () -> solver.automaton(a, what, k), () -> reference.automaton(a, what, k));
                break;
            case 1:
                same("has(" + a + ", " + n + ", " + word + ")",
                        () -> Check.number(solver.has(a, n, word)), () -> Check.number(reference.has(a, n, word)));
                break;
            case 2:
                same("words(" + a + ", " + counted + ")",
                        () -> solver.words(a, counted), () -> reference.words(a, counted));
                break;
            case 3:
                same("first(" + a + ", " + n + ")", () -> solver.first(a, n), () -> reference.first(a, n));
                break;
            case 4:
                same("shortest(" + a + ")", () -> solver.shortest(a), () -> reference.shortest(a));
                break;
            default:
                same("within(" + a + ", " + b + ")",
                        () -> Check.number(solver.within(a, b)), () -> Check.number(reference.within(a, b)));
                break;
        }
    }

    private void solverCall() {
        int v = random.nextInt(25) == 0 ? wild() : random.nextInt(4);
        switch (random.nextInt(10)) {
            case 0, 1, 2:
                variable(v, random.nextInt(8) == 0 ? -1 : anyLanguage());
                break;
            case 3, 4:
                boundCall();
                break;
            case 5:
                if (random.nextInt(3) == 0) {
                    clear();
                }
                break;
            case 6, 7:
                int m = random.nextInt(12) == 0 ? wild() : random.nextInt(4) == 0 ? 31 : random.nextInt(16);
                solveCall(m);
                break;
            case 8:
                same("length(" + v + ")", () -> solver.length(v), () -> reference.length(v));
                break;
            default:
                same("word(" + v + ")", () -> solver.word(v), () -> reference.word(v));
                break;
        }
    }

    private void solveCall(int m) {
        String told = same("solve(" + m + ")",
                () -> Check.number(solver.solve(m)), () -> Check.number(reference.solve(m)));
        solved += told.equals("1") ? 1 : 0;
        unsolved += told.equals("0") ? 1 : 0;
        for (int v = 0; v < 4; v++) {
            int asked = v;
            same("length(" + v + ")", () -> solver.length(asked), () -> reference.length(asked));
            same("word(" + v + ")", () -> solver.word(asked), () -> reference.word(asked));
        }
    }

    private void variable(int v, int a) {
        same("variable(" + v + ", " + a + ")", Check.answering(() -> solver.variable(v, a)),
                Check.answering(() -> reference.variable(v, a)));
    }

    private void clear() {
        same("clear()", Check.answering(() -> solver.clear()), Check.answering(() -> reference.clear()));
    }

    private void boundCall() {
        int[] factors = {factor(), factor(), factor(), factor()};
        int middle = random.nextInt(10) == 0 ? wild() : random.nextInt(40) - 10;
        int width = random.nextInt(3) == 0 ? 0 : random.nextInt(60) - 3;
        int least = random.nextInt(8) == 0 ? Integer.MIN_VALUE : middle;
        int most = random.nextInt(8) == 0 ? Integer.MAX_VALUE : middle + width;
        bound(factors, least, most);
    }

    private void bound(int[] factors, int least, int most) {
        int p = factors[0];
        int q = factors[1];
        int r = factors[2];
        int s = factors[3];
        same("bound(" + p + ", " + q + ", " + r + ", " + s + ", " + least + ", " + most + ")",
                () -> solver.bound(p, q, r, s, least, most), () -> reference.bound(p, q, r, s, least, most));
    }

    private int factor() {
        switch (random.nextInt(20)) {
            case 0:
                return random.nextInt(205) - 102;
            case 1:
                return random.nextInt(20) == 0 ? wild() : 100;
            case 2, 3, 4, 5, 6, 7, 8:
                return 0;
            default:
                return random.nextInt(9) - 4;
        }
    }

    /** The languages made lately are the larger ones. */
    private int anyLanguage() {
        int count = reference.count();
        switch (random.nextInt(60)) {
            case 0:
                return wild();
            case 1:
                return count;
            default:
                return random.nextBoolean() ? random.nextInt(count) : Math.max(0, count - 1 - random.nextInt(6));
        }
    }

    private long anyWord(int n) {
        if (random.nextInt(20) == 0) {
            return random.nextLong();
        }
        if (n < 0 || n > 31 || random.nextInt(20) == 0) {
            return 1L << (2 * n);
        }
        return random.nextLong() & ((1L << (2 * n)) - 1);
    }

    private int wild() {
        int[] wilds = {Integer.MIN_VALUE, -101, -3, -2, -1, 4, 16, 32, 60, 101, 1001, Integer.MAX_VALUE};
        return wilds[random.nextInt(wilds.length)];
    }

    private void compareLanguages() {
        List<String> shortWords = Reference.shortWords();
        for (int a = 0; a < reference.count(); a++) {
            int asked = a;
            int states = reference.automaton(a, 0, 0);
            for (int what = 0; what < 4; what++) {
                int told = what;
                for (int k = -1; k <= (what == 2 ? 4 * states : states); k++) {
                    int at = k;
                    same("automaton(" + a + ", " + what + ", " + k + ")",
                            () -> solver.automaton(asked, told, at), () -> reference.automaton(asked, told, at));
                }
            }
            List<String> seen = new ArrayList<>();
            for (String word : shortWords) {
                long number = word.isEmpty() ? 0 : Long.parseLong(word, 4);
                if (solver.has(a, word.length(), number) != reference.language(a).words.contains(word)) {
                    seen.add(word);
                }
            }
            check.that("run " + run + ": language " + a + " is wrong about " + seen, seen.isEmpty());
        }
    }

    private String same(String what, Check.Call got, Check.Call want) {
        String due = Check.told(want);
        String told = Check.told(got);
        check.that("run " + run + ": " + what + " answered " + told + ", due is " + due, told.equals(due));
        return due;
    }
}
