import java.math.BigInteger;

/** Each sentence of the document's promises that names a boundary case, as a test of its own. */
public final class BoundaryPromisesTest {
    /** A call that makes a language of one or two others. */
    private interface Make {
        int make(RegularSolver x, int a, int b);
    }

    private static final String NO_SUCH = "IllegalArgumentException: there is no such LANGUAGE.";
    private static final String THERE_ARE_60 = "IndexOutOfBoundsException: there are 60.";
    private static final String LARGE = "UnsupportedOperationException: LARGE.";
    private static final String ORDER = "(What is thrown is told in the order of testing.)";
    private static final int[] NO_VARIABLES = {-1, 4, Check.LOWEST, Check.HIGHEST};
    private static final int[] NO_WORD_LENGTHS = {-1, 32, 33, 64, Check.LOWEST, Check.HIGHEST};

    private final Check check = new Check("BoundaryPromisesTest");

    public static void main(String[] args) {
        BoundaryPromisesTest test = new BoundaryPromisesTest();
        test.check.each(test);
        test.check.end();
    }

    void promise01NoLanguages() {
        check.sentence("No LANGUAGES");
        RegularSolver x = new RegularSolver();
        check.refused("shortest(0)", Check.ARGUMENT, () -> x.shortest(0));
        check.refused("not(0)", Check.ARGUMENT, () -> x.not(0));
        check.refusedAct("variable(0, 0)", Check.ARGUMENT, () -> x.variable(0, 0));
        check.due("the first one", 0, () -> x.empty());
        RegularSolver y = new RegularSolver();
        check.refused("none of another object's", Check.ARGUMENT, () -> y.shortest(0));
    }

    void promise01NoBounds() {
        check.sentence("no BOUNDS");
        RegularSolver x = new RegularSolver();
        check.due("none forbids", 1, () -> Check.number(x.solve(0)));
        for (int k = 1; k <= 8; k++) {
            check.due("bound " + k, k, () -> x.bound(0, 0, 0, 0, 1, 1));
        }
        RegularSolver y = new RegularSolver();
        check.due("none of another object's", 1, () -> Check.number(y.solve(0)));
    }

    void promise01VariablesWithoutALanguage() {
        check.sentence("VARIABLES without a LANGUAGE");
        RegularSolver x = new RegularSolver();
        x.bound(1, 1, 1, 1, 0, 0);
        check.due("solve", 1, () -> Check.number(x.solve(31)));
        for (int v = 0; v < 4; v++) {
            int asked = v;
            check.due("length(" + v + ")", 0, () -> x.length(asked));
            check.due("word(" + v + ")", 0, () -> x.word(asked));
        }
    }

    void promise01NoSolution() {
        check.sentence("IllegalStateException: there is none.");
        for (int v = 0; v < 4; v++) {
            RegularSolver x = new RegularSolver();
            int asked = v;
            check.refused("length(" + v + ")", Check.STATE, () -> x.length(asked));
            check.refused("word(" + v + ")", Check.STATE, () -> x.word(asked));
        }
    }

    void promise02BitKForLetterK() {
        check.sentence("bit k for LETTER k: its number");
        RegularSolver x = new RegularSolver();
        for (int k = 0; k < 16; k++) {
            int set = k;
            check.due("letters(" + set + ")", set, () -> x.letters(set));
            for (int letter = 0; letter < 4; letter++) {
                long word = letter;
                check.due("letter " + letter + " of " + set, set >> letter & 1,
                        () -> Check.number(x.has(set, 1, word)));
            }
        }
    }

    void promise02SetIsNot0To15() {
        check.sentence("IllegalArgumentException: set is not 0..15.");
        RegularSolver x = new RegularSolver();
        int[] sets = {-1, -16, 16, 17, 32, Check.LOWEST, Check.HIGHEST};
        check.eachRefused("letters", Check.ARGUMENT, sets, x::letters);
        check.due("letters(0)", 0, () -> x.letters(0));
        check.due("letters(15)", 1, () -> x.letters(15));
    }

    void promise02ThereAre60() {
        check.sentence(THERE_ARE_60);
        takesThe60th((x, a, b) -> x.letters(15));
    }

    void promise02SetIsTestedFirst() {
        check.sentence(ORDER);
        RegularSolver x = new RegularSolver();
        Made.fill(x);
        check.eachRefused("letters", Check.ARGUMENT, new int[] {-1, 16}, x::letters);
        check.eachRefused("letters", Check.INDEX, new int[] {0, 15}, x::letters);
    }

    void promise03ThereAre60() {
        check.sentence("int empty() throws IndexOutOfBoundsException");
        takesThe60th((x, a, b) -> x.empty());
    }

    void promise04NoSuchLanguage() {
        check.sentence(NO_SUCH);
        knowsBoth(RegularSolver::then);
    }

    void promise04ThereAre60() {
        check.sentence(THERE_ARE_60);
        takesThe60th(RegularSolver::then);
    }

    void promise04Large() {
        check.sentence(LARGE);
        RegularSolver x = new RegularSolver();
        int long62 = Made.allOf(x, 62);
        check.refused("more states", Check.UNSUPPORTED, () -> x.then(long62, 0));
        check.refused("far more states", Check.UNSUPPORTED, () -> x.then(long62, long62));
        // Which of the last letters were 0 has to be kept in mind.
        int all = Made.all(x);
        int fifth = x.then(x.letters(1), Made.allOf(x, 5));
        int sixth = x.then(fifth, 0);
        int ninth = x.then(sixth, Made.allOf(x, 3));
        check.refused("2 ** 7 states", Check.UNSUPPORTED, () -> x.then(all, sixth));
        check.refused("2 ** 10 on the way", Check.UNSUPPORTED, () -> x.then(all, ninth));
        int made = x.then(all, fifth);
        check.due("2 ** 6 states", 64, () -> x.automaton(made, 0, 0));
    }

    void promise04OrderOfTesting() {
        check.sentence(ORDER);
        RegularSolver x = new RegularSolver();
        int long62 = Made.allOf(x, 62);
        keepsOrder(x, long62, 0, RegularSolver::then);
    }

    void promise05NoSuchLanguage() {
        check.sentence(NO_SUCH + " Likewise.");
        knowsBoth(RegularSolver::or);
    }

    void promise05ThereAre60() {
        check.sentence(THERE_ARE_60 + " Likewise.");
        takesThe60th(RegularSolver::or);
    }

    void promise05Large() {
        check.sentence(LARGE + " Likewise.");
        RegularSolver x = new RegularSolver();
        int fewer = Made.rows(x, 3, 8);
        int some = Made.rows(x, 3, 9);
        int more = Made.rows(x, 3, 7);
        int many = Made.rows(x, 3, 61);
        check.refused("73 states", Check.UNSUPPORTED, () -> x.or(fewer, some));
        check.refused("550 pairs", Check.UNSUPPORTED, () -> x.or(some, many));
        int made = x.or(more, fewer);
        check.due("57 states", 57, () -> x.automaton(made, 0, 0));
    }

    void promise05OrderOfTesting() {
        check.sentence(ORDER + " Likewise.");
        RegularSolver x = new RegularSolver();
        int one = Made.rows(x, 3, 61);
        int other = Made.rows(x, 3, 62);
        keepsOrder(x, one, other, RegularSolver::or);
    }

    void promise06NoSuchLanguage() {
        check.sentence(NO_SUCH + " Likewise.");
        knowsBoth(RegularSolver::and);
    }

    void promise06ThereAre60() {
        check.sentence(THERE_ARE_60 + " Likewise.");
        takesThe60th(RegularSolver::and);
    }

    void promise06Large() {
        check.sentence(LARGE + " Likewise.");
        RegularSolver x = new RegularSolver();
        int fewer = Made.rows(x, 3, 8);
        int some = Made.rows(x, 3, 9);
        int more = Made.rows(x, 3, 7);
        int many = Made.rows(x, 3, 61);
        check.refused("73 states", Check.UNSUPPORTED, () -> x.and(fewer, some));
        check.refused("550 pairs", Check.UNSUPPORTED, () -> x.and(some, many));
        int made = x.and(more, fewer);
        check.due("57 states", 57, () -> x.automaton(made, 0, 0));
    }

    void promise06OrderOfTesting() {
        check.sentence(ORDER + " Likewise.");
        RegularSolver x = new RegularSolver();
        int one = Made.rows(x, 3, 61);
        int other = Made.rows(x, 3, 62);
        keepsOrder(x, one, other, RegularSolver::and);
    }

    void promise07NoSuchLanguage() {
        check.sentence("IllegalArgumentException .. likewise.");
        knowsOne((x, a, b) -> x.not(a));
    }

    void promise07ThereAre60() {
        check.sentence("IndexOutOfBoundsException likewise.");
        takesThe60th((x, a, b) -> x.not(a));
    }

    void promise07OrderOfTesting() {
        check.sentence("IllegalArgumentException, IndexOutOfBoundsException likewise.");
        RegularSolver x = new RegularSolver();
        Made.fill(x);
        check.eachRefused("not", Check.ARGUMENT, noLanguages(60), x::not);
        check.eachRefused("not", Check.INDEX, new int[] {0, 59}, x::not);
    }

    void promise08NoSuchLanguage() {
        check.sentence(NO_SUCH + " Likewise.");
        knowsOne((x, a, b) -> x.again(a));
    }

    void promise08ThereAre60() {
        check.sentence(THERE_ARE_60 + " Likewise.");
        takesThe60th((x, a, b) -> x.again(a));
    }

    void promise08Large() {
        check.sentence(LARGE + " Likewise.");
        RegularSolver x = new RegularSolver();
        int more = x.or(Made.allOf(x, 5), Made.allOf(x, 17));
        check.refused("65 states", Check.UNSUPPORTED, () -> x.again(more));
        int far = x.or(Made.allOf(x, 30), Made.allOf(x, 61));
        check.refused("1770 states", Check.UNSUPPORTED, () -> x.again(far));
        int fewer = x.or(Made.allOf(x, 5), Made.allOf(x, 16));
        int made = x.again(fewer);
        check.due("61 states", 61, () -> x.automaton(made, 0, 0));
    }

    void promise08OrderOfTesting() {
        check.sentence(ORDER + " Likewise.");
        RegularSolver x = new RegularSolver();
        int far = x.or(Made.allOf(x, 30), Made.allOf(x, 61));
        check.refused("LARGE, not full", Check.UNSUPPORTED, () -> x.again(far));
        Made.fill(x);
        check.refused("LARGE, full", Check.INDEX, () -> x.again(far));
        check.eachRefused("no such, full", Check.ARGUMENT, noLanguages(60), x::again);
    }

    void promise09NoSuchLanguage() {
        check.sentence("IllegalArgumentException: a, what.");
        RegularSolver x = new RegularSolver();
        check.refused("no language at all", Check.ARGUMENT, () -> x.automaton(0, 0, 0));
        x.letters(1);
        x.letters(2);
        for (int what = 0; what < 4; what++) {
            int asked = what;
            check.eachRefused("what " + what, Check.ARGUMENT, noLanguages(2), a -> x.automaton(a, asked, 0));
        }
        check.due("the last one", 3, () -> x.automaton(1, 0, 0));
    }

    void promise09WhatIsNot0To3() {
        check.sentence("IllegalArgumentException: a, what.");
        RegularSolver x = new RegularSolver();
        x.letters(0b0100);
        int[] whats = {-1, 4, 5, Check.LOWEST, Check.HIGHEST};
        check.eachRefused("what", Check.ARGUMENT, whats, what -> x.automaton(0, what, 0));
        check.due("what 0", 3, () -> x.automaton(0, 0, 0));
        check.due("what 1", 1, () -> x.automaton(0, 1, 0));
        check.due("what 2", 2, () -> x.automaton(0, 2, 2));
        check.due("what 3", 1, () -> x.automaton(0, 3, 2));
    }

    void promise09GoesByLetter() {
        check.sentence("2: the STATE to which STATE k / 4 goes by LETTER k % 4");
        RegularSolver x = new RegularSolver();
        int[] next = {1, 1, 2, 1, 1, 1, 1, 1, 1, 1, 1, 1};
        x.letters(0b0100);
        for (int k = 0; k < next.length; k++) {
            int asked = k;
            check.due("k = " + k, next[k], () -> x.automaton(0, 2, asked));
        }
        int long62 = Made.allOf(x, 62);
        check.due("state 61 by letter 3", 62, () -> x.automaton(long62, 2, 247));
        check.due("state 63 by letter 0", 63, () -> x.automaton(long62, 2, 252));
        check.due("state 63 by letter 3", 63, () -> x.automaton(long62, 2, 255));
    }

    void promise09NoStateToGoFrom() {
        check.sentence("IndexOutOfBoundsException: there is no such STATE");
        RegularSolver x = new RegularSolver();
        int[] ends = {-1, -2, -3, -4, -5, Check.LOWEST, Check.HIGHEST};
        int none = x.letters(0);
        int empty = x.empty();
        int long62 = Made.allOf(x, 62);
        for (int a : new int[] {none, empty, long62}) {
            int above = 4 * x.automaton(a, 0, 0);
            check.eachRefused("language " + a, Check.INDEX, ends, k -> x.automaton(a, 2, k));
            int[] aboves = {above, above + 1};
            check.eachRefused("language " + a, Check.INDEX, aboves, k -> x.automaton(a, 2, k));
            check.due("just below", x.automaton(a, 0, 0) - 1, () -> x.automaton(a, 2, above - 1));
        }
    }

    void promise09NoStateToBeALastOne() {
        check.sentence("3: 1 if STATE k is a last one .. IndexOutOfBoundsException: there is no such STATE");
        RegularSolver x = new RegularSolver();
        int[] ends = {-1, Check.LOWEST, Check.HIGHEST};
        int all = Made.all(x);
        int two = x.letters(0b0100);
        int not62 = x.not(Made.allOf(x, 62));
        for (int a : new int[] {all, two, not62}) {
            int above = x.automaton(a, 0, 0);
            check.eachRefused("language " + a, Check.INDEX, ends, k -> x.automaton(a, 3, k));
            int[] aboves = {above, above + 1, 4 * above - 1};
            check.eachRefused("language " + a, Check.INDEX, aboves, k -> x.automaton(a, 3, k));
            check.due("just below", 1, () -> x.automaton(a, 3, above - 1));
        }
        check.due("no last one", 0, () -> x.automaton(two, 3, 0));
        check.due("state 62 of 0 to 63", 0, () -> x.automaton(not62, 3, 62));
    }

    void promise09KDoesNotCount() {
        check.sentence("(what 0 and 1: k does not count)");
        RegularSolver x = new RegularSolver();
        x.letters(0b0100);
        for (int k : new int[] {-1, 0, 3, 12, Check.LOWEST, Check.HIGHEST}) {
            check.due("states, k = " + k, 3, () -> x.automaton(0, 0, k));
            check.due("last states, k = " + k, 1, () -> x.automaton(0, 1, k));
        }
    }

    void promise09ArgumentsAreTestedFirst() {
        check.sentence(ORDER);
        RegularSolver x = new RegularSolver();
        x.letters(0b0100);
        check.refused("no language and no state", Check.ARGUMENT, () -> x.automaton(1, 2, -1));
        check.refused("no language and no state", Check.ARGUMENT, () -> x.automaton(-1, 3, 99));
        check.refused("no such question and no state", Check.ARGUMENT, () -> x.automaton(0, 4, 99));
    }

    void promise10NoSuchLanguage() {
        check.sentence("IllegalArgumentException: a");
        RegularSolver x = new RegularSolver();
        check.refused("no language at all", Check.ARGUMENT, () -> Check.number(x.has(0, 0, 0)));
        x.letters(1);
        x.empty();
        check.eachRefused("has", Check.ARGUMENT, noLanguages(2), a -> Check.number(x.has(a, 0, 0)));
        check.due("the last one", 1, () -> Check.number(x.has(1, 0, 0)));
    }

    void promise10NIsNot0To31() {
        check.sentence("n is not 0..31");
        RegularSolver x = new RegularSolver();
        int all = Made.all(x);
        check.eachRefused("has", Check.ARGUMENT, NO_WORD_LENGTHS, n -> Check.number(x.has(all, n, 0)));
        check.due("n = 0", 1, () -> Check.number(x.has(all, 0, 0)));
        check.due("n = 31", 1, () -> Check.number(x.has(all, 31, 0)));
    }

    void promise10WordIsBelow0() {
        check.sentence("or word is below 0");
        RegularSolver x = new RegularSolver();
        int all = Made.all(x);
        for (long word : new long[] {-1, -2, -4, Long.MIN_VALUE, Long.MIN_VALUE + 1, -1L << 62}) {
            for (int n = 0; n <= 31; n++) {
                int asked = n;
                check.refused(n + " letters, word " + word, Check.ARGUMENT,
                        () -> Check.number(x.has(all, asked, word)));
            }
        }
    }

    void promise10WordIsNotBelow4ToTheN() {
        check.sentence("or not below 4 ** n");
        RegularSolver x = new RegularSolver();
        int all = Made.all(x);
        for (int n = 0; n <= 31; n++) {
            int asked = n;
            long above = 1L << (2 * n);
            check.due(n + " letters, the greatest", 1, () -> Check.number(x.has(all, asked, above - 1)));
            check.refused(n + " letters, 4 ** n", Check.ARGUMENT, () -> Check.number(x.has(all, asked, above)));
            check.refused(n + " letters, highest", Check.ARGUMENT,
                    () -> Check.number(x.has(all, asked, Long.MAX_VALUE)));
        }
    }

    void promise11NoSuchLanguage() {
        check.sentence("IllegalArgumentException: a");
        RegularSolver x = new RegularSolver();
        check.refused("no language at all", Check.ARGUMENT, () -> x.words(0, 0));
        x.letters(1);
        x.empty();
        check.eachRefused("words", Check.ARGUMENT, noLanguages(2), a -> x.words(a, 0));
        check.due("the last one", 1, () -> x.words(1, 0));
    }

    void promise11NIsNot0To1000() {
        check.sentence("n is not 0..1000");
        RegularSolver x = new RegularSolver();
        int three = Made.rows(x, 3, 1);
        int[] lengths = {-1, 1001, 1002, Check.LOWEST, Check.HIGHEST};
        check.eachRefused("words", Check.ARGUMENT, lengths, n -> x.words(three, n));
        for (int n : new int[] {0, 1, 31, 32, 999, 1000}) {
            check.due("n = " + n, 1, () -> x.words(three, n));
        }
    }

    void promise11WrapsAt64Bits() {
        check.sentence("(64 bits, wrapping)");
        RegularSolver x = new RegularSolver();
        int all = Made.all(x);
        check.due("4 ** 31", 1L << 62, () -> x.words(all, 31));
        check.due("4 ** 32", 0, () -> x.words(all, 32));
        check.due("4 ** 1000", 0, () -> x.words(all, 1000));
        int low = x.again(x.letters(0b0011));
        check.due("2 ** 62", 1L << 62, () -> x.words(low, 62));
        check.due("2 ** 63", Long.MIN_VALUE, () -> x.words(low, 63));
        check.due("2 ** 64", 0, () -> x.words(low, 64));
        int notLow = x.not(low);
        check.due("4 ** 32 - 2 ** 32", -(1L << 32), () -> x.words(notLow, 32));
        int three = x.again(x.letters(0b0111));
        for (int n : new int[] {39, 40, 41, 999, 1000}) {
            check.due("3 ** " + n, BigInteger.valueOf(3).pow(n).longValue(), () -> x.words(three, n));
        }
    }

    void promise12NoSuchLanguage() {
        check.sentence("IllegalArgumentException: a");
        RegularSolver x = new RegularSolver();
        check.refused("no language at all", Check.ARGUMENT, () -> x.first(0, 0));
        x.letters(1);
        x.empty();
        check.eachRefused("first", Check.ARGUMENT, noLanguages(2), a -> x.first(a, 0));
        check.due("the last one", 0, () -> x.first(1, 0));
    }

    void promise12NIsNot0To31() {
        check.sentence("n is not 0..31");
        RegularSolver x = new RegularSolver();
        int three = Made.rows(x, 3, 1);
        check.eachRefused("first", Check.ARGUMENT, NO_WORD_LENGTHS, n -> x.first(three, n));
        for (int n = 0; n <= 31; n++) {
            int asked = n;
            check.due("n = " + n, (1L << (2 * n)) - 1, () -> x.first(three, asked));
        }
    }

    void promise12ThereIsNone() {
        check.sentence("UnsupportedOperationException: there is none.");
        RegularSolver x = new RegularSolver();
        int none = x.letters(0);
        int empty = x.empty();
        int any = x.letters(15);
        int odd = x.then(any, x.again(x.then(any, any)));
        for (int n = 0; n <= 31; n++) {
            int asked = n;
            check.refused("none of " + n, Check.UNSUPPORTED, () -> x.first(none, asked));
            if (n % 2 == 0) {
                check.refused("odd of " + n, Check.UNSUPPORTED, () -> x.first(odd, asked));
            } else {
                check.due("odd of " + n, 0, () -> x.first(odd, asked));
            }
        }
        check.due("the empty word", 0, () -> x.first(empty, 0));
        check.refused("no other", Check.UNSUPPORTED, () -> x.first(empty, 1));
    }

    void promise12ArgumentsAreTestedFirst() {
        check.sentence(ORDER);
        RegularSolver x = new RegularSolver();
        int none = x.letters(0);
        check.eachRefused("first", Check.ARGUMENT, NO_WORD_LENGTHS, n -> x.first(none, n));
        check.eachRefused("first", Check.ARGUMENT, noLanguages(1), a -> x.first(a, 31));
    }

    void promise13NoWord() {
        check.sentence("-1 if it has none");
        RegularSolver x = new RegularSolver();
        int none = x.letters(0);
        int some = x.letters(0b0001);
        int both = x.and(some, x.letters(0b0010));
        int lost = x.then(some, none);
        check.due("letters(0)", -1, () -> x.shortest(none));
        check.due("and", -1, () -> x.shortest(both));
        check.due("then", -1, () -> x.shortest(lost));
    }

    void promise13LeastAndGreatestLengths() {
        check.sentence("The least length of a word of it");
        RegularSolver x = new RegularSolver();
        int empty = x.empty();
        int all = Made.all(x);
        int long62 = Made.allOf(x, 62);
        int from63 = x.then(long62, x.then(x.letters(15), all));
        check.due("0", 0, () -> x.shortest(empty));
        check.due("0 of all", 0, () -> x.shortest(all));
        check.due("62", 62, () -> x.shortest(long62));
        check.due("63, the greatest with 64 states", 63, () -> x.shortest(from63));
    }

    void promise13NoSuchLanguage() {
        check.sentence("IllegalArgumentException: a.");
        RegularSolver x = new RegularSolver();
        check.refused("no language at all", Check.ARGUMENT, () -> x.shortest(0));
        x.letters(1);
        x.letters(1);
        check.eachRefused("shortest", Check.ARGUMENT, noLanguages(2), x::shortest);
        check.due("the last one", 1, () -> x.shortest(1));
    }

    void promise14NoneAllAndItself() {
        check.sentence("Whether all words of a are words of b.");
        RegularSolver x = new RegularSolver();
        int none = x.letters(0);
        int empty = x.empty();
        int some = x.letters(0b0011);
        int all = Made.all(x);
        int[] rising = {none, empty, all};
        for (int a = 0; a < 3; a++) {
            for (int b = 0; b < 3; b++) {
                int inner = rising[a];
                int outer = rising[b];
                check.due("within(" + inner + ", " + outer + ")", a <= b ? 1 : 0,
                        () -> Check.number(x.within(inner, outer)));
            }
        }
        check.due("none within some", 1, () -> Check.number(x.within(none, some)));
        check.due("some within none", 0, () -> Check.number(x.within(some, none)));
        check.due("the empty word within some", 0, () -> Check.number(x.within(empty, some)));
        check.due("some within itself", 1, () -> Check.number(x.within(some, some)));
        int more = x.letters(0b0111);
        check.due("all but one word", 0, () -> Check.number(x.within(more, some)));
        check.due("one word more", 1, () -> Check.number(x.within(some, more)));
    }

    void promise14NoSuchLanguage() {
        check.sentence("IllegalArgumentException.");
        RegularSolver x = new RegularSolver();
        check.refused("no language at all", Check.ARGUMENT, () -> Check.number(x.within(0, 0)));
        x.letters(1);
        x.letters(1);
        check.eachRefused("no a", Check.ARGUMENT, noLanguages(2), a -> Check.number(x.within(a, 0)));
        check.eachRefused("no b", Check.ARGUMENT, noLanguages(2), b -> Check.number(x.within(0, b)));
        check.due("the last one", 1, () -> Check.number(x.within(1, 1)));
    }

    void promise15NoLanguage() {
        check.sentence("A VARIABLE gets a LANGUAGE (-1: none)");
        RegularSolver x = new RegularSolver();
        int one = x.letters(0b0010);
        for (int v = 0; v < 4; v++) {
            int asked = v;
            check.runs("none had", () -> x.variable(asked, -1));
            check.runs("one", () -> x.variable(asked, one));
            check.due("solve", 1, () -> Check.number(x.solve(1)));
            check.due("its length", 1, () -> x.length(asked));
            check.runs("none", () -> x.variable(asked, -1));
            check.due("solve", 1, () -> Check.number(x.solve(1)));
            check.due("the empty word", 0, () -> x.length(asked));
        }
    }

    void promise15TheSolutionStays() {
        check.sentence("a SOLUTION that is kept stays as it is");
        RegularSolver x = new RegularSolver();
        int three = x.letters(0b1000);
        int two = x.then(three, three);
        x.variable(1, three);
        check.due("solve", 1, () -> Check.number(x.solve(2)));
        for (int a : new int[] {two, -1}) {
            for (int v = 0; v < 4; v++) {
                x.variable(v, a);
            }
            check.due("length(0)", 0, () -> x.length(0));
            check.due("length(1)", 1, () -> x.length(1));
            check.due("word(1)", 3, () -> x.word(1));
            check.due("word(2)", 0, () -> x.word(2));
        }
        x.variable(1, two);
        check.due("solve", 1, () -> Check.number(x.solve(2)));
        check.due("until there is another", 2, () -> x.length(1));
    }

    void promise15TheSolutionStaysBehindBound() {
        check.sentence("(behind bound, too)");
        RegularSolver x = new RegularSolver();
        x.variable(1, x.letters(0b1000));
        check.due("solve", 1, () -> Check.number(x.solve(2)));
        check.due("a bound that forbids it", 1, () -> x.bound(0, 1, 0, 0, 2, 2));
        check.due("length(1)", 1, () -> x.length(1));
        check.due("word(1)", 3, () -> x.word(1));
        check.due("solve", 0, () -> Check.number(x.solve(2)));
        check.refused("until there is none", Check.STATE, () -> x.length(1));
    }

    void promise15VIsNot0To3() {
        check.sentence("IllegalArgumentException: v is not 0..3");
        RegularSolver x = new RegularSolver();
        x.empty();
        for (int v : NO_VARIABLES) {
            check.refusedAct("variable(" + v + ", 0)", Check.ARGUMENT, () -> x.variable(v, 0));
            check.refusedAct("variable(" + v + ", -1)", Check.ARGUMENT, () -> x.variable(v, -1));
        }
        check.runs("variable(0, 0)", () -> x.variable(0, 0));
        check.runs("variable(3, 0)", () -> x.variable(3, 0));
    }

    void promise15NoSuchLanguage() {
        check.sentence("IllegalArgumentException: v is not 0..3, a.");
        RegularSolver x = new RegularSolver();
        check.refusedAct("no language at all", Check.ARGUMENT, () -> x.variable(0, 0));
        x.empty();
        x.empty();
        for (int a : new int[] {-2, -3, 2, 3, 59, 60, Check.LOWEST, Check.HIGHEST}) {
            check.refusedAct("variable(0, " + a + ")", Check.ARGUMENT, () -> x.variable(0, a));
        }
        check.runs("the last one", () -> x.variable(0, 1));
    }

    void promise16LeastAboveMost() {
        check.sentence("(least may be above most: it never holds then)");
        int[][] limits = {{1, 0}, {0, -1}, {1, -1}, {Check.HIGHEST, Check.LOWEST}, {6, 5}, {3100, 3099}};
        for (int[] limit : limits) {
            for (int factor : new int[] {-100, -1, 0, 1, 100}) {
                RegularSolver x = new RegularSolver();
                x.variable(2, Made.all(x));
                check.due("bound", 1, () -> x.bound(0, 0, factor, 0, limit[0], limit[1]));
                check.due("solve", 0, () -> Check.number(x.solve(31)));
            }
        }
    }

    void promise16HowManyThereAre() {
        check.sentence("how many there are");
        RegularSolver x = new RegularSolver();
        for (int k = 1; k <= 8; k++) {
            check.due("bound " + k, k, () -> x.bound(1, 1, 1, 1, 0, 0));
            check.refused("a factor", Check.ARGUMENT, () -> x.bound(1, 1, 1, 101, 0, 0));
        }
    }

    void promise16AFactor() {
        check.sentence("IllegalArgumentException: a factor.");
        RegularSolver x = new RegularSolver();
        int[] factors = {-102, -101, 101, 102, 200, Check.LOWEST, Check.HIGHEST};
        check.eachRefused("p", Check.ARGUMENT, factors, f -> x.bound(f, 0, 0, 0, 0, 0));
        check.eachRefused("q", Check.ARGUMENT, factors, f -> x.bound(0, f, 0, 0, 0, 0));
        check.eachRefused("r", Check.ARGUMENT, factors, f -> x.bound(0, 0, f, 0, 0, 0));
        check.eachRefused("s", Check.ARGUMENT, factors, f -> x.bound(0, 0, 0, f, 0, 0));
        check.due("all -100", 1, () -> x.bound(-100, -100, -100, -100, 0, 0));
        check.due("all 100", 2, () -> x.bound(100, 100, 100, 100, 0, 0));
    }

    void promise16ThereAre8() {
        check.sentence("IndexOutOfBoundsException: there are 8.");
        RegularSolver x = new RegularSolver();
        for (int k = 1; k <= 8; k++) {
            check.due("bound " + k, k, () -> x.bound(0, 0, 0, 0, 0, 0));
        }
        check.refused("a ninth", Check.INDEX, () -> x.bound(0, 0, 0, 0, 0, 0));
        check.refused("a ninth that never holds", Check.INDEX, () -> x.bound(0, 0, 0, 0, 1, 0));
        check.due("it is not there", 1, () -> Check.number(x.solve(0)));
    }

    void promise16FactorsAreTestedFirst() {
        check.sentence(ORDER);
        RegularSolver x = new RegularSolver();
        for (int k = 1; k <= 8; k++) {
            x.bound(0, 0, 0, 0, 0, 0);
        }
        check.refused("p", Check.ARGUMENT, () -> x.bound(101, 0, 0, 0, 0, 0));
        check.refused("q", Check.ARGUMENT, () -> x.bound(0, -101, 0, 0, 0, 0));
        check.refused("r", Check.ARGUMENT, () -> x.bound(0, 0, 101, 0, 0, 0));
        check.refused("s", Check.ARGUMENT, () -> x.bound(0, 0, 0, -101, 0, 0));
    }

    void promise17NoBounds() {
        check.sentence("No BOUNDS");
        RegularSolver x = new RegularSolver();
        check.runs("clear of a new object", x::clear);
        for (int turn = 0; turn < 3; turn++) {
            for (int k = 1; k <= 8; k++) {
                check.due("bound " + k, k, () -> x.bound(0, 0, 0, 0, 1, 1));
            }
            check.due("they never hold", 0, () -> Check.number(x.solve(0)));
            check.runs("clear", x::clear);
            check.due("none is left", 1, () -> Check.number(x.solve(0)));
        }
    }

    void promise17VariablesWithoutALanguage() {
        check.sentence("VARIABLES without a LANGUAGE");
        for (int v = 0; v < 4; v++) {
            RegularSolver x = new RegularSolver();
            int asked = v;
            x.variable(v, x.letters(0b0010));
            check.due("solve", 1, () -> Check.number(x.solve(3)));
            check.due("its length", 1, () -> x.length(asked));
            check.runs("clear", x::clear);
            check.due("solve", 1, () -> Check.number(x.solve(3)));
            check.due("the empty word", 0, () -> x.length(asked));
        }
    }

    void promise17NoSolution() {
        check.sentence("no SOLUTION is kept");
        RegularSolver x = new RegularSolver();
        check.due("solve", 1, () -> Check.number(x.solve(3)));
        check.due("it is kept", 0, () -> x.length(0));
        check.runs("clear", x::clear);
        for (int v = 0; v < 4; v++) {
            int asked = v;
            check.refused("length(" + v + ")", Check.STATE, () -> x.length(asked));
            check.refused("word(" + v + ")", Check.STATE, () -> x.word(asked));
        }
        check.runs("clear twice", x::clear);
    }

    void promise17LanguagesStay() {
        check.sentence("LANGUAGES stay");
        RegularSolver x = new RegularSolver();
        int two = x.letters(0b0110);
        check.runs("clear", x::clear);
        check.due("it stays", 2, () -> x.words(two, 1));
        check.due("the next one", two + 1, () -> x.empty());
        Made.fill(x);
        check.runs("clear, full", x::clear);
        check.refused("there are still 60", Check.INDEX, () -> x.empty());
        check.due("the last one stays", 0, () -> x.shortest(59));
    }

    void promise18MIsNot0To31() {
        check.sentence("IllegalArgumentException: m is not 0..31");
        RegularSolver x = new RegularSolver();
        check.eachRefused("solve", Check.ARGUMENT, NO_WORD_LENGTHS, m -> Check.number(x.solve(m)));
        check.refused("none is kept by it", Check.STATE, () -> x.length(0));
        check.due("solve(0)", 1, () -> Check.number(x.solve(0)));
        check.due("solve(31)", 1, () -> Check.number(x.solve(31)));
    }

    void promise18WhatIsKeptStays() {
        check.sentence("(what is kept stays)");
        RegularSolver x = new RegularSolver();
        x.variable(3, x.letters(0b1000));
        check.due("solve", 1, () -> Check.number(x.solve(1)));
        x.variable(3, -1);
        check.eachRefused("solve", Check.ARGUMENT, NO_WORD_LENGTHS, m -> Check.number(x.solve(m)));
        check.due("length(3)", 1, () -> x.length(3));
        check.due("word(3)", 3, () -> x.word(3));
    }

    void promise18ItIsKeptElseThereIsNone() {
        check.sentence("it is kept then, else there is none");
        RegularSolver x = new RegularSolver();
        x.variable(0, x.letters(0b0100));
        check.due("solve(1)", 1, () -> Check.number(x.solve(1)));
        check.due("it is kept", 2, () -> x.word(0));
        check.due("solve(0)", 0, () -> Check.number(x.solve(0)));
        check.refused("none is kept", Check.STATE, () -> x.length(0));
        check.refused("no word is kept", Check.STATE, () -> x.word(0));
        check.due("solve(1) again", 1, () -> Check.number(x.solve(1)));
        check.due("it is kept again", 2, () -> x.word(0));
        x.bound(1, 0, 0, 0, 2, 2);
        check.due("a bound forbids it", 0, () -> Check.number(x.solve(31)));
        check.refused("none is kept again", Check.STATE, () -> x.length(0));
    }

    void promise19TheEmptyWordIfItHadNoLanguage() {
        check.sentence("(0, the empty word, if it had no LANGUAGE)");
        RegularSolver x = new RegularSolver();
        int one = x.letters(0b0010);
        x.variable(1, one);
        check.due("solve", 1, () -> Check.number(x.solve(5)));
        for (int v = 0; v < 4; v++) {
            x.variable(v, v == 1 ? -1 : one);
        }
        for (int v = 0; v < 4; v++) {
            int asked = v;
            check.due("length(" + v + ")", v == 1 ? 1 : 0, () -> x.length(asked));
        }
        check.due("solve, when another has none", 1, () -> Check.number(x.solve(5)));
        for (int v = 0; v < 4; v++) {
            int asked = v;
            check.due("length(" + v + ") anew", v == 1 ? 0 : 1, () -> x.length(asked));
        }
    }

    void promise19V() {
        check.sentence("IllegalArgumentException: v.");
        RegularSolver x = new RegularSolver();
        check.due("solve", 1, () -> Check.number(x.solve(0)));
        check.eachRefused("length", Check.ARGUMENT, NO_VARIABLES, x::length);
        check.due("length(0)", 0, () -> x.length(0));
        check.due("length(3)", 0, () -> x.length(3));
    }

    void promise19ThereIsNone() {
        check.sentence("IllegalStateException: there is none.");
        RegularSolver x = new RegularSolver();
        check.eachRefused("never solved", Check.STATE, new int[] {0, 1, 2, 3}, x::length);
        x.bound(0, 0, 0, 0, 1, 1);
        check.due("solve", 0, () -> Check.number(x.solve(0)));
        check.eachRefused("not solved", Check.STATE, new int[] {0, 1, 2, 3}, x::length);
        check.eachRefused("v is tested first", Check.ARGUMENT, NO_VARIABLES, x::length);
    }

    void promise20TheEmptyWordIfItHadNoLanguage() {
        check.sentence("(0, the empty word, if it had no LANGUAGE) .. Its word. Likewise.");
        RegularSolver x = new RegularSolver();
        int three = x.letters(0b1000);
        x.variable(2, three);
        check.due("solve", 1, () -> Check.number(x.solve(5)));
        for (int v = 0; v < 4; v++) {
            x.variable(v, v == 2 ? -1 : three);
        }
        for (int v = 0; v < 4; v++) {
            int asked = v;
            check.due("word(" + v + ")", v == 2 ? 3 : 0, () -> x.word(asked));
        }
        check.due("solve, when another has none", 1, () -> Check.number(x.solve(5)));
        for (int v = 0; v < 4; v++) {
            int asked = v;
            check.due("word(" + v + ") anew", v == 2 ? 0 : 3, () -> x.word(asked));
        }
    }

    void promise20V() {
        check.sentence("IllegalArgumentException: v. Likewise.");
        RegularSolver x = new RegularSolver();
        check.due("solve", 1, () -> Check.number(x.solve(0)));
        check.eachRefused("word", Check.ARGUMENT, NO_VARIABLES, x::word);
        check.due("word(0)", 0, () -> x.word(0));
        check.due("word(3)", 0, () -> x.word(3));
    }

    void promise20ThereIsNone() {
        check.sentence("IllegalStateException: there is none. Likewise.");
        RegularSolver x = new RegularSolver();
        check.eachRefused("never solved", Check.STATE, new int[] {0, 1, 2, 3}, x::word);
        x.bound(0, 0, 0, 0, 1, 1);
        check.due("solve", 0, () -> Check.number(x.solve(0)));
        check.eachRefused("not solved", Check.STATE, new int[] {0, 1, 2, 3}, x::word);
        check.eachRefused("v is tested first", Check.ARGUMENT, NO_VARIABLES, x::word);
    }

    /** Numbers that no language has where so many are made. */
    private static int[] noLanguages(int made) {
        return new int[] {-1, -2, made, made + 1, 60, 61, Check.LOWEST, Check.HIGHEST};
    }

    private void knowsOne(Make call) {
        RegularSolver x = new RegularSolver();
        check.refused("no language at all", Check.ARGUMENT, () -> call.make(x, 0, 0));
        x.letters(1);
        x.letters(2);
        check.eachRefused("no a", Check.ARGUMENT, noLanguages(2), a -> call.make(x, a, 0));
        check.due("the last one", 2, () -> call.make(x, 1, 1));
        check.due("the first one", 3, () -> call.make(x, 0, 0));
        check.due("the new one", 4, () -> call.make(x, 3, 3));
    }

    private void knowsBoth(Make call) {
        knowsOne(call);
        RegularSolver x = new RegularSolver();
        x.letters(1);
        x.letters(2);
        check.eachRefused("no b", Check.ARGUMENT, noLanguages(2), b -> call.make(x, 0, b));
        check.eachRefused("neither", Check.ARGUMENT, noLanguages(2), a -> call.make(x, a, a));
        check.due("both", 2, () -> call.make(x, 0, 1));
    }

    private void takesThe60th(Make call) {
        RegularSolver x = new RegularSolver();
        for (int k = 0; k < 59; k++) {
            x.empty();
        }
        check.due("the 60th", 59, () -> call.make(x, 58, 58));
        check.refused("one more", Check.INDEX, () -> call.make(x, 58, 58));
        check.refused("of the last one", Check.INDEX, () -> call.make(x, 59, 59));
    }

    /** Of a and b a language would be LARGE. */
    private void keepsOrder(RegularSolver x, int a, int b, Make call) {
        check.refused("LARGE, not full", Check.UNSUPPORTED, () -> call.make(x, a, b));
        Made.fill(x);
        check.refused("LARGE, full", Check.INDEX, () -> call.make(x, a, b));
        check.eachRefused("no a, full", Check.ARGUMENT, noLanguages(60), none -> call.make(x, none, 0));
        check.eachRefused("no b, full", Check.ARGUMENT, noLanguages(60), none -> call.make(x, 0, none));
    }
}
