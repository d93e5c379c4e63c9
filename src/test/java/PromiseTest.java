import java.math.BigInteger;

/**
 * Each promise of the document by itself, with answers worked out by hand; only the words whose
 * ways of then and again have just 800 or 801 states were found by a search that counted them.
 */
public final class PromiseTest {
    private static final Class<IllegalArgumentException> ARGUMENT = IllegalArgumentException.class;
    private static final Class<IndexOutOfBoundsException> INDEX = IndexOutOfBoundsException.class;
    private static final Class<UnsupportedOperationException> UNSUPPORTED = UnsupportedOperationException.class;
    private static final Class<IllegalStateException> STATE = IllegalStateException.class;
    private static final int LOWEST = Integer.MIN_VALUE;
    private static final int HIGHEST = Integer.MAX_VALUE;

    private final Check check = new Check("PromiseTest");

    public static void main(String[] args) {
        PromiseTest test = new PromiseTest();
        test.promise1NewObject();
        test.promise2Letters();
        test.promise3Empty();
        test.promise4Then();
        test.promise4ThenLarge();
        test.promise5Or();
        test.promise5OrLarge();
        test.promise6And();
        test.promise6AndLarge();
        test.promise7Not();
        test.promise8Again();
        test.promise8AgainLarge();
        test.promises2To8Full();
        test.promise9Automaton();
        test.promise10Has();
        test.promise11Words();
        test.promise12First();
        test.promise13Shortest();
        test.promise14Within();
        test.promise15Variable();
        test.promise16Bound();
        test.promise17Clear();
        test.promise18Solve();
        test.promise18SolveLimits();
        test.promise18SolveRounding();
        test.promise19Length();
        test.promise20Word();
        test.check.end();
    }

    private void promise1NewObject() {
        RegularSolver x = new RegularSolver();
        check.refused("no language 0", ARGUMENT, () -> x.shortest(0));
        check.refused("no solution", STATE, () -> x.length(0));
        check.due("variables without a language", 1, () -> Check.number(x.solve(31)));
        for (int v = 0; v < 4; v++) {
            int asked = v;
            check.due("length(" + v + ")", 0, () -> x.length(asked));
        }
        check.due("no bounds", 1, () -> x.bound(0, 0, 0, 0, 0, 0));
        check.due("no languages", 0, () -> x.empty());
        RegularSolver y = new RegularSolver();
        check.due("objects share nothing", 0, () -> y.empty());
    }

    private void promise2Letters() {
        RegularSolver x = new RegularSolver();
        for (int set = 0; set < 16; set++) {
            int made = set;
            check.due("letters(" + set + ")", set, () -> x.letters(made));
            for (int letter = 0; letter < 4; letter++) {
                long word = letter;
                check.due("letter " + letter + " of set " + set, set >> letter & 1,
                        () -> Check.number(x.has(made, 1, word)));
            }
            check.due("words of 0 letters", 0, () -> x.words(made, 0));
            check.due("words of 2 letters", 0, () -> x.words(made, 2));
        }
        // Letter 0 leads on: the last state comes first; else the lost one does.
        automatonIs(x, 1, "1 2 2 2 2 2 2 2 2 2 2 2", 0b010);
        automatonIs(x, 6, "1 2 2 1 1 1 1 1 1 1 1 1", 0b100);
        automatonIs(x, 15, "1 1 1 1 2 2 2 2 2 2 2 2", 0b010);
        automatonIs(x, 0, "0 0 0 0", 0);
        for (int set : new int[] {-1, 16, LOWEST, HIGHEST}) {
            check.refused("letters(" + set + ")", ARGUMENT, () -> x.letters(set));
        }
        check.due("what throws makes nothing", 16, () -> x.letters(1));
    }

    private void promise3Empty() {
        RegularSolver x = new RegularSolver();
        check.due("empty()", 0, () -> x.empty());
        automatonIs(x, 0, "1 1 1 1 1 1 1 1", 0b01);
        check.due("the empty word", 1, () -> Check.number(x.has(0, 0, 0)));
        check.due("no other", 0, () -> x.words(0, 1));
        check.due("the next one", 1, () -> x.empty());
    }

    private void promise4Then() {
        RegularSolver x = new RegularSolver();
        int front = x.letters(0b0011);
        int back = x.letters(0b0101);
        check.due("then(0, 1)", 2, () -> x.then(front, back));
        automatonIs(x, 2, "1 1 2 2 3 2 3 2 2 2 2 2 2 2 2 2", 0b1000);
        check.due("front comes first", 1, () -> Check.number(x.has(2, 2, 0b0110)));
        check.due("back comes last", 0, () -> Check.number(x.has(2, 2, 0b1001)));
        int maybe = x.or(front, x.empty());
        int both = x.then(maybe, maybe);
        check.due("none of both", 1, () -> x.words(both, 0));
        check.due("one of either", 2, () -> x.words(both, 1));
        check.due("one of each", 4, () -> x.words(both, 2));
        int none = x.letters(0);
        int lost = x.then(front, none);
        check.due("then nothing at all", 1, () -> x.automaton(lost, 0, 0));
        int same = x.then(front, x.empty());
        check.due("then the empty word", 1, () -> Check.number(x.within(same, front) && x.within(front, same)));
        int next = same + 1;
        for (int a : new int[] {-1, next, LOWEST, HIGHEST}) {
            check.refused("then(" + a + ", 0)", ARGUMENT, () -> x.then(a, 0));
            check.refused("then(0, " + a + ")", ARGUMENT, () -> x.then(0, a));
        }
        check.due("what throws makes nothing", next, () -> x.empty());
    }

    private void promise4ThenLarge() {
        RegularSolver x = new RegularSolver();
        int any = x.letters(15);
        int sixtyOne = doubled(x, any, 61);
        check.due("61 letters have 63 states", 63, () -> x.automaton(sixtyOne, 0, 0));
        int sixtyTwo = x.then(sixtyOne, any);
        check.due("62 letters have 64 states", 64, () -> x.automaton(sixtyTwo, 0, 0));
        check.refused("63 letters have 65", UNSUPPORTED, () -> x.then(sixtyTwo, any));
        check.refused("both are looked at first", ARGUMENT, () -> x.then(sixtyTwo, sixtyTwo + 1));
        check.due("what throws makes nothing", sixtyTwo + 1, () -> x.empty());

        // The back has the empty word, so what is made is its front; the way comes to 778 states
        // behind the front's own, of which there are as many as its least length.
        RegularSolver y = new RegularSolver();
        int back = y.or(y.empty(), parts(y, 2, 7, 8, 12));
        int front = y.again(y.letters(15));
        int anyOfY = y.letters(15);
        for (int k = 0; k < 22; k++) {
            front = y.then(anyOfY, front);
        }
        int at800 = front;
        check.due("then: 800 on the way", front + 1, () -> y.then(at800, back));
        check.due("its states", 23, () -> y.automaton(at800 + 1, 0, 0));
        int at801 = y.then(anyOfY, front);
        check.refused("then: 801 on the way", UNSUPPORTED, () -> y.then(at801, back));
        check.due("what throws makes nothing", at801 + 1, () -> y.empty());
    }

    private void promise5Or() {
        RegularSolver x = new RegularSolver();
        int one = x.letters(0b0010);
        int two = x.then(one, one);
        check.due("or(0, 1)", 2, () -> x.or(one, two));
        automatonIs(x, 2, "1 2 1 1 1 1 1 1 1 3 1 1 1 1 1 1", 0b1100);
        check.due("of either", 1, () -> x.words(2, 1));
        check.due("of the other", 1, () -> x.words(2, 2));
        check.due("of none", 0, () -> x.words(2, 3));
        int all = x.or(one, x.not(one));
        automatonIs(x, all, "0 0 0 0", 1);
        for (int a : new int[] {-1, all + 1, LOWEST, HIGHEST}) {
            check.refused("or(" + a + ", 0)", ARGUMENT, () -> x.or(a, 0));
            check.refused("or(0, " + a + ")", ARGUMENT, () -> x.or(0, a));
        }
    }

    private void promise5OrLarge() {
        RegularSolver x = new RegularSolver();
        int any = x.letters(15);
        int zero = x.letters(1);
        int empty = x.empty();
        int long62 = doubled(x, any, 62);
        int made = x.or(long62, empty);
        check.due("the empty word adds no state to 64", 64, () -> x.automaton(made, 0, 0));
        check.refused("letter 0 adds one", UNSUPPORTED, () -> x.or(long62, zero));
        check.due("what throws makes nothing", made + 1, () -> x.empty());

        RegularSolver y = new RegularSolver();
        int[] pair = pairOf799(y);
        int anyOfY = y.letters(15);
        int a = y.not(y.then(anyOfY, pair[0]));
        int b = y.not(y.then(anyOfY, pair[1]));
        int all = y.or(a, b);
        check.due("or: 800 pairs, one state", 1, () -> y.automaton(all, 0, 0));
        int c = y.not(y.then(anyOfY, y.then(anyOfY, pair[0])));
        check.refused("or: 801 pairs", UNSUPPORTED, () -> y.or(c, b));
        check.due("what throws makes nothing", c + 1, () -> y.empty());
    }

    private void promise6And() {
        RegularSolver x = new RegularSolver();
        int low = x.letters(0b0111);
        int high = x.letters(0b1110);
        check.due("and(0, 1)", 2, () -> x.and(low, high));
        automatonIs(x, 2, "1 2 2 1 1 1 1 1 1 1 1 1", 0b100);
        int none = x.and(low, x.empty());
        automatonIs(x, none, "0 0 0 0", 0);
        for (int a : new int[] {-1, none + 1, LOWEST, HIGHEST}) {
            check.refused("and(" + a + ", 0)", ARGUMENT, () -> x.and(a, 0));
            check.refused("and(0, " + a + ")", ARGUMENT, () -> x.and(0, a));
        }
    }

    private void promise6AndLarge() {
        RegularSolver x = new RegularSolver();
        int any = x.letters(15);
        int notZero = x.not(x.letters(1));
        int notEmpty = x.not(x.empty());
        int not62 = x.not(doubled(x, any, 62));
        int made = x.and(not62, notEmpty);
        check.due("64 states", 64, () -> x.automaton(made, 0, 0));
        check.refused("65 states", UNSUPPORTED, () -> x.and(not62, notZero));
        check.due("what throws makes nothing", made + 1, () -> x.empty());

        RegularSolver y = new RegularSolver();
        int[] pair = pairOf799(y);
        int anyOfY = y.letters(15);
        int a = y.then(anyOfY, pair[0]);
        int b = y.then(anyOfY, pair[1]);
        int none = y.and(a, b);
        check.due("and: 800 pairs, one state", 1, () -> y.automaton(none, 0, 0));
        int c = y.then(anyOfY, a);
        check.refused("and: 801 pairs", UNSUPPORTED, () -> y.and(c, b));
        check.due("what throws makes nothing", c + 1, () -> y.empty());
    }

    private void promise7Not() {
        RegularSolver x = new RegularSolver();
        int two = x.letters(0b0100);
        check.due("not(0)", 1, () -> x.not(two));
        automatonIs(x, 1, "1 1 2 1 1 1 1 1 1 1 1 1", 0b011);
        check.due("not(1)", 2, () -> x.not(1));
        automatonIs(x, 2, "1 1 2 1 1 1 1 1 1 1 1 1", 0b100);
        int any = x.letters(15);
        int long62 = doubled(x, any, 62);
        int other = x.not(long62);
        check.due("64 states stay 64", 64, () -> x.automaton(other, 0, 0));
        check.due("63 of them last", 63, () -> x.automaton(other, 1, 0));
        int all = x.not(x.letters(0));
        automatonIs(x, all, "0 0 0 0", 1);
        for (int a : new int[] {-1, all + 1, LOWEST, HIGHEST}) {
            check.refused("not(" + a + ")", ARGUMENT, () -> x.not(a));
        }
    }

    private void promise8Again() {
        RegularSolver x = new RegularSolver();
        int one = x.letters(0b0010);
        int two = x.then(one, one);
        check.due("again(1)", 2, () -> x.again(two));
        automatonIs(x, 2, "1 2 1 1 1 1 1 1 1 0 1 1", 0b001);
        check.due("none", 1, () -> x.words(2, 0));
        check.due("half of one", 0, () -> x.words(2, 1));
        check.due("three", 1, () -> x.words(2, 6));
        int ofNothing = x.again(x.letters(0));
        automatonIs(x, ofNothing, "1 1 1 1 1 1 1 1", 0b01);
        int ofEmpty = x.again(x.empty());
        automatonIs(x, ofEmpty, "1 1 1 1 1 1 1 1", 0b01);
        int any = x.again(x.letters(15));
        automatonIs(x, any, "0 0 0 0", 1);
        for (int a : new int[] {-1, any + 1, LOWEST, HIGHEST}) {
            check.refused("again(" + a + ")", ARGUMENT, () -> x.again(a));
        }
    }

    private void promise8AgainLarge() {
        // Of lengths 3 and 32 all from 62 on can be put together, but not 61: 0 to 61, all the
        // rest, and the state that a wrong letter leads to. Of 5 and 17 all from 64 on, but not 63.
        RegularSolver x = new RegularSolver();
        int zero = x.letters(1);
        int some = x.or(doubled(x, zero, 3), doubled(x, zero, 32));
        int made = x.again(some);
        check.due("64 states", 64, () -> x.automaton(made, 0, 0));
        int any = x.letters(15);
        int more = x.or(doubled(x, any, 5), doubled(x, any, 17));
        check.refused("65 states", UNSUPPORTED, () -> x.again(more));
        check.due("what throws makes nothing", more + 1, () -> x.empty());

        // All letters are among the words, so all words are made; the ways are just longer.
        RegularSolver y = new RegularSolver();
        int at800 = y.or(y.letters(15), y.or(parts(y, 6, 12, 8, 15), parts(y, 7, 6, 2, 10)));
        int all = y.again(at800);
        check.due("again: 800 on the way, one state", 1, () -> y.automaton(all, 0, 0));
        int at801 = y.or(y.letters(15), y.or(parts(y, 10, 9, 8, 14), parts(y, 2, 12, 2, 1)));
        check.refused("again: 801 on the way", UNSUPPORTED, () -> y.again(at801));
        check.due("what throws makes nothing", at801 + 1, () -> y.empty());
    }

    private void promises2To8Full() {
        RegularSolver x = new RegularSolver();
        int any = x.letters(15);
        int long62 = doubled(x, any, 62);
        for (int k = long62 + 1; k < 60; k++) {
            int number = k;
            check.due("language " + k, k, () -> number % 2 == 0 ? x.empty() : x.letters(1));
        }
        check.refused("letters, full", INDEX, () -> x.letters(1));
        check.refused("letters, full, wrong set", ARGUMENT, () -> x.letters(16));
        check.refused("empty, full", INDEX, () -> x.empty());
        check.refused("then, full", INDEX, () -> x.then(0, 0));
        check.refused("then, full, large", INDEX, () -> x.then(long62, long62));
        check.refused("then, full, wrong", ARGUMENT, () -> x.then(0, 60));
        check.refused("or, full", INDEX, () -> x.or(0, 0));
        check.refused("or, full, wrong", ARGUMENT, () -> x.or(60, 0));
        check.refused("and, full", INDEX, () -> x.and(0, 0));
        check.refused("and, full, wrong", ARGUMENT, () -> x.and(0, -1));
        check.refused("not, full", INDEX, () -> x.not(0));
        check.refused("not, full, wrong", ARGUMENT, () -> x.not(60));
        check.refused("again, full", INDEX, () -> x.again(0));
        check.refused("again, full, large", INDEX, () -> x.again(long62));
        check.refused("again, full, wrong", ARGUMENT, () -> x.again(60));
        check.due("the last one stands", 1, () -> x.automaton(59, 1, 0));
    }

    private void promise9Automaton() {
        RegularSolver x = new RegularSolver();
        int two = x.letters(0b0100);
        check.due("states", 3, () -> x.automaton(two, 0, LOWEST));
        check.due("last states", 1, () -> x.automaton(two, 1, HIGHEST));
        check.due("state 0 by letter 2", 2, () -> x.automaton(two, 2, 2));
        check.due("state 1 by letter 0", 1, () -> x.automaton(two, 2, 4));
        check.due("state 2 by letter 3", 1, () -> x.automaton(two, 2, 11));
        check.due("state 1 is no last one", 0, () -> x.automaton(two, 3, 1));
        check.due("state 2 is a last one", 1, () -> x.automaton(two, 3, 2));
        for (int k : new int[] {-1, -3, -4, 12, LOWEST, HIGHEST}) {
            check.refused("automaton(0, 2, " + k + ")", INDEX, () -> x.automaton(two, 2, k));
        }
        for (int k : new int[] {-1, 3, LOWEST, HIGHEST}) {
            check.refused("automaton(0, 3, " + k + ")", INDEX, () -> x.automaton(two, 3, k));
        }
        for (int what : new int[] {-1, 4, LOWEST, HIGHEST}) {
            check.refused("automaton(0, " + what + ", 0)", ARGUMENT, () -> x.automaton(two, what, 0));
            check.refused("automaton(0, " + what + ", 99)", ARGUMENT, () -> x.automaton(two, what, 99));
        }
        for (int a : new int[] {-1, 1, 60, LOWEST, HIGHEST}) {
            check.refused("automaton(" + a + ", 0, 0)", ARGUMENT, () -> x.automaton(a, 0, 0));
            check.refused("automaton(" + a + ", 2, 99)", ARGUMENT, () -> x.automaton(a, 2, 99));
        }
    }

    private void promise10Has() {
        RegularSolver x = new RegularSolver();
        int all = x.again(x.letters(15));
        int end = x.then(all, x.letters(0b1000));
        int start = x.then(x.letters(0b1000), all);
        long most = (1L << 62) - 1;
        check.due("the first letter stands highest", 1, () -> Check.number(x.has(start, 31, 3L << 60)));
        check.due("and not lowest", 0, () -> Check.number(x.has(start, 31, 3L)));
        check.due("the last letter stands lowest", 1, () -> Check.number(x.has(end, 31, 3L)));
        check.due("and not highest", 0, () -> Check.number(x.has(end, 31, 3L << 60)));
        check.due("leading letters 0 count", 0, () -> Check.number(x.has(start, 2, 3L)));
        check.due("the greatest word", 1, () -> Check.number(x.has(end, 31, most)));
        check.due("the empty word", 1, () -> Check.number(x.has(all, 0, 0)));
        check.refused("4 ** 31", ARGUMENT, () -> Check.number(x.has(all, 31, most + 1)));
        check.refused("4 ** 0", ARGUMENT, () -> Check.number(x.has(all, 0, 1)));
        check.refused("4 ** 1", ARGUMENT, () -> Check.number(x.has(all, 1, 4)));
        check.due("below 4 ** 1", 1, () -> Check.number(x.has(all, 1, 3)));
        check.refused("4 ** 16", ARGUMENT, () -> Check.number(x.has(all, 16, 1L << 32)));
        for (long word : new long[] {-1, Long.MIN_VALUE, Long.MAX_VALUE}) {
            check.refused("word " + word, ARGUMENT, () -> Check.number(x.has(all, 31, word)));
        }
        for (int n : new int[] {-1, 32, 64, LOWEST, HIGHEST}) {
            check.refused("has of " + n + " letters", ARGUMENT, () -> Check.number(x.has(all, n, 0)));
        }
        for (int a : new int[] {-1, end + 5, LOWEST, HIGHEST}) {
            check.refused("has of language " + a, ARGUMENT, () -> Check.number(x.has(a, 0, 0)));
        }
    }

    private void promise11Words() {
        RegularSolver x = new RegularSolver();
        int three = x.again(x.letters(0b0111));
        int odd = x.then(x.letters(0b1001), three);
        for (int n : new int[] {0, 1, 2, 39, 40, 41, 64, 999, 1000}) {
            long due = BigInteger.valueOf(3).pow(n).longValue();
            check.due("words(3 letters, " + n + ")", due, () -> x.words(three, n));
        }
        check.due("2 * 3 ** 4", 162, () -> x.words(odd, 5));
        int all = x.again(x.letters(15));
        check.due("4 ** 31", 1L << 62, () -> x.words(all, 31));
        check.due("4 ** 32 wraps", 0, () -> x.words(all, 32));
        int none = x.letters(0);
        check.due("none", 0, () -> x.words(none, 1000));
        for (int n : new int[] {-1, 1001, LOWEST, HIGHEST}) {
            check.refused("words of " + n + " letters", ARGUMENT, () -> x.words(all, n));
        }
        for (int a : new int[] {-1, none + 1, LOWEST, HIGHEST}) {
            check.refused("words of language " + a, ARGUMENT, () -> x.words(a, 0));
        }
    }

    private void promise12First() {
        RegularSolver x = new RegularSolver();
        int high = x.letters(0b1100);
        int low = x.letters(0b0010);
        int turns = x.again(x.then(high, low));
        check.due("the empty word", 0, () -> x.first(turns, 0));
        check.due("2 1", 0b1001, () -> x.first(turns, 2));
        check.due("2 1 2 1", 0b10011001, () -> x.first(turns, 4));
        check.refused("none of 3", UNSUPPORTED, () -> x.first(turns, 3));
        check.refused("none of 31", UNSUPPORTED, () -> x.first(turns, 31));
        // Letter 1 is before 2, but no word of three letters begins with it.
        int wanted = x.or(low, x.then(high, x.then(low, high)));
        check.due("2 1 2", 0b100110, () -> x.first(wanted, 3));
        check.due("1", 1, () -> x.first(wanted, 1));
        int threes = x.again(x.letters(0b1000));
        check.due("31 letters 3", (1L << 62) - 1, () -> x.first(threes, 31));
        for (int n : new int[] {-1, 32, LOWEST, HIGHEST}) {
            check.refused("first of " + n + " letters", ARGUMENT, () -> x.first(threes, n));
        }
        for (int a : new int[] {-1, threes + 1, LOWEST, HIGHEST}) {
            check.refused("first of language " + a, ARGUMENT, () -> x.first(a, 0));
        }
    }

    private void promise13Shortest() {
        RegularSolver x = new RegularSolver();
        int none = x.letters(0);
        int any = x.letters(15);
        int empty = x.empty();
        check.due("none", -1, () -> x.shortest(none));
        check.due("one letter", 1, () -> x.shortest(any));
        check.due("the empty word", 0, () -> x.shortest(empty));
        int long62 = doubled(x, any, 62);
        check.due("62 letters", 62, () -> x.shortest(long62));
        int all = x.again(any);
        int from63 = x.then(long62, x.then(any, all));
        check.due("63 letters or more", 63, () -> x.shortest(from63));
        for (int a : new int[] {-1, from63 + 1, LOWEST, HIGHEST}) {
            check.refused("shortest(" + a + ")", ARGUMENT, () -> x.shortest(a));
        }
    }

    private void promise14Within() {
        RegularSolver x = new RegularSolver();
        int some = x.letters(0b0011);
        int more = x.letters(0b0111);
        int none = x.letters(0);
        int all = x.again(x.letters(15));
        check.due("fewer within more", 1, () -> Check.number(x.within(some, more)));
        check.due("more within fewer", 0, () -> Check.number(x.within(more, some)));
        check.due("itself", 1, () -> Check.number(x.within(more, more)));
        check.due("none within none", 1, () -> Check.number(x.within(none, none)));
        check.due("none within some", 1, () -> Check.number(x.within(none, some)));
        check.due("all within none", 0, () -> Check.number(x.within(all, none)));
        check.due("some within all", 1, () -> Check.number(x.within(some, all)));
        for (int a : new int[] {-1, 60, LOWEST, HIGHEST}) {
            check.refused("within(" + a + ", 0)", ARGUMENT, () -> Check.number(x.within(a, 0)));
            check.refused("within(0, " + a + ")", ARGUMENT, () -> Check.number(x.within(0, a)));
        }

        int seven = x.again(doubled(x, x.letters(15), 7));
        int sixty = doubled(x, x.letters(15), 60);
        int not60 = x.not(sixty);
        int below60 = x.not(x.then(sixty, all));
        int not56 = x.not(doubled(x, x.letters(15), 56));
        check.due("60 is no multiple of 7", 1, () -> Check.number(x.within(seven, not60)));
        check.due("56 is one", 0, () -> Check.number(x.within(seven, not56)));
        check.due("63 is not below 60", 0, () -> Check.number(x.within(seven, below60)));

        // Far more pairs than a language may have on its way: nothing is LARGE here.
        RegularSolver y = new RegularSolver();
        int a = multiples(y, 0, 60);
        int b = multiples(y, 1, 59);
        int notB = y.not(b);
        check.due("60 by 59 pairs", 0, () -> Check.number(y.within(a, b)));
        check.due("and the last of them", 0, () -> Check.number(y.within(a, notB)));
        RegularSolver z = new RegularSolver();
        int[] pair = pairOf799(z);
        int anyOfZ = z.letters(15);
        int inner = z.then(anyOfZ, z.then(anyOfZ, pair[0]));
        int outer = z.not(z.then(anyOfZ, pair[1]));
        check.refused("801 pairs are LARGE for a language", UNSUPPORTED, () -> z.and(inner, outer));
        check.due("but not here", 1, () -> Check.number(z.within(inner, outer)));
    }

    private void promise15Variable() {
        RegularSolver x = new RegularSolver();
        int one = x.letters(0b0010);
        int two = x.then(one, one);
        for (int v : new int[] {-1, 4, LOWEST, HIGHEST}) {
            check.refusedAct("variable(" + v + ", 0)", ARGUMENT, () -> x.variable(v, 0));
            check.refusedAct("variable(" + v + ", -1)", ARGUMENT, () -> x.variable(v, -1));
        }
        check.runs("variable(3, 1)", () -> x.variable(3, two));
        for (int a : new int[] {-2, 2, LOWEST, HIGHEST}) {
            check.refusedAct("variable(3, " + a + ")", ARGUMENT, () -> x.variable(3, a));
        }
        check.due("what throws changes nothing", 1, () -> Check.number(x.solve(9)));
        check.due("its length", 2, () -> x.length(3));
        check.runs("another language", () -> x.variable(3, one));
        check.due("the solution stays", 2, () -> x.length(3));
        check.due("its word, too", 0b0101, () -> x.word(3));
        check.due("until the next one", 1, () -> Check.number(x.solve(9)));
        check.due("the new length", 1, () -> x.length(3));
        check.runs("no language", () -> x.variable(3, -1));
        check.due("the solution stays again", 1, () -> x.length(3));
        check.due("solve", 1, () -> Check.number(x.solve(9)));
        check.due("the empty word", 0, () -> x.length(3));
    }

    private void promise16Bound() {
        RegularSolver x = new RegularSolver();
        int[] wrong = {-101, 101, LOWEST, HIGHEST};
        for (int f : wrong) {
            check.refused("factor p " + f, ARGUMENT, () -> x.bound(f, 0, 0, 0, 0, 0));
            check.refused("factor q " + f, ARGUMENT, () -> x.bound(0, f, 0, 0, 0, 0));
            check.refused("factor r " + f, ARGUMENT, () -> x.bound(0, 0, f, 0, 0, 0));
            check.refused("factor s " + f, ARGUMENT, () -> x.bound(0, 0, 0, f, 0, 0));
        }
        check.due("solve", 1, () -> Check.number(x.solve(3)));
        check.due("never holds", 1, () -> x.bound(100, -100, 100, -100, 1, -1));
        check.due("the solution stays", 0, () -> x.length(0));
        check.due("least above most", 0, () -> Check.number(x.solve(3)));
        check.runs("clear", () -> x.clear());
        for (int k = 1; k <= 8; k++) {
            check.due("bound " + k, k, () -> x.bound(1, 1, 1, 1, LOWEST, HIGHEST));
        }
        check.refused("a ninth", INDEX, () -> x.bound(1, 1, 1, 1, 0, 0));
        check.refused("a ninth, wrong", ARGUMENT, () -> x.bound(1, 1, 1, 101, 0, 0));
        check.due("all eight hold", 1, () -> Check.number(x.solve(3)));
        check.due("least above most for 0", 0, () -> {
            RegularSolver y = new RegularSolver();
            y.bound(0, 0, 0, 0, HIGHEST, LOWEST);
            return Check.number(y.solve(0));
        });
    }

    private void promise17Clear() {
        RegularSolver x = new RegularSolver();
        check.runs("clear of a new object", () -> x.clear());
        int one = x.letters(0b0010);
        x.variable(0, one);
        x.variable(3, one);
        check.due("solve", 1, () -> Check.number(x.solve(3)));
        check.due("bound", 1, () -> x.bound(1, 0, 0, 0, 5, 5));
        check.due("word", 1, () -> x.word(0));
        check.runs("clear", () -> x.clear());
        check.refused("no solution", STATE, () -> x.word(0));
        check.refused("no length", STATE, () -> x.length(0));
        check.due("no bounds and languages", 1, () -> Check.number(x.solve(3)));
        check.due("variable 0", 0, () -> x.length(0));
        check.due("variable 3", 0, () -> x.length(3));
        check.due("bounds anew", 1, () -> x.bound(0, 0, 0, 0, 0, 0));
        check.due("languages stay", 1, () -> x.words(one, 1));
        check.due("and go on", 1, () -> x.empty());
    }

    private void promise18Solve() {
        RegularSolver x = new RegularSolver();
        int all = x.again(x.letters(15));
        int twos = x.again(x.then(x.letters(0b0100), x.letters(0b1010)));
        x.variable(0, all);
        x.variable(1, all);
        x.variable(2, twos);
        x.bound(1, 1, 1, 0, 7, 7);
        solved(x, 7, 0, 1, 6, 0);
        solved(x, 31, 0, 1, 6, 0);
        solved(x, 6, 0, 1, 6, 0);
        solved(x, 3, 2, 3, 2, 0);
        solved(x, 2, -1, -1, -1, -1);
        x.bound(2, -3, 0, 100, -4, -4);
        solved(x, 10, 1, 2, 4, 0);
        x.bound(-100, 0, 0, 0, LOWEST, -200);
        solved(x, 10, -1, -1, -1, -1);
        x.clear();
        x.variable(3, twos);
        x.bound(50, 0, 0, -100, -2100, -1900);
        x.bound(0, 0, 0, 1, 20, HIGHEST);
        solved(x, 31, 0, 0, 0, 20);
        solved(x, 19, -1, -1, -1, -1);
        check.refused("what was kept is gone", STATE, () -> x.word(0));
        x.clear();
        x.bound(1, 1, 1, 1, 1, HIGHEST);
        check.due("no words but empty ones", 0, () -> Check.number(x.solve(31)));
        x.clear();
        x.variable(1, x.letters(0));
        check.due("a language without words", 0, () -> Check.number(x.solve(31)));
        x.clear();
        x.variable(2, x.letters(0b1000));
        check.due("no word that is short enough", 0, () -> Check.number(x.solve(0)));
        check.due("just short enough", 1, () -> Check.number(x.solve(1)));
    }

    private void promise18SolveLimits() {
        RegularSolver x = new RegularSolver();
        int one = x.letters(0b0010);
        x.variable(0, one);
        check.due("solve(31)", 1, () -> Check.number(x.solve(31)));
        x.variable(0, -1);
        for (int m : new int[] {-1, 32, LOWEST, HIGHEST}) {
            check.refused("solve(" + m + ")", ARGUMENT, () -> Check.number(x.solve(m)));
        }
        check.due("what is kept stays", 1, () -> x.length(0));
        check.due("its word, too", 1, () -> x.word(0));
        int all = x.again(x.letters(15));
        for (int v = 0; v < 4; v++) {
            x.variable(v, all);
        }
        x.bound(100, 100, 100, 100, 12400, HIGHEST);
        solved(x, 31, 31, 31, 31, 31);
        solved(x, 30, -1, -1, -1, -1);
        x.clear();
        for (int v = 0; v < 4; v++) {
            x.variable(v, all);
        }
        x.bound(-100, -100, -100, -100, LOWEST, -12400);
        solved(x, 31, 31, 31, 31, 31);
        x.bound(2, 4, 6, 8, 3, 3);
        solved(x, 31, -1, -1, -1, -1);
    }

    private void promise18SolveRounding() {
        roundedIs(3, 4, 5, -1);
        roundedIs(3, 4, 6, 2);
        roundedIs(3, 3, 5, 1);
        roundedIs(3, LOWEST, -1, -1);
        roundedIs(3, LOWEST, 0, 0);
        roundedIs(3, -1, 2, 0);
        roundedIs(3, 93, HIGHEST, 31);
        roundedIs(3, 94, HIGHEST, -1);
        roundedIs(-3, -5, -4, -1);
        roundedIs(-3, -6, -4, 2);
        roundedIs(-3, -5, -3, 1);
        roundedIs(-3, 1, HIGHEST, -1);
        roundedIs(-3, 0, HIGHEST, 0);
        roundedIs(-3, -2, 1, 0);
        roundedIs(-3, LOWEST, -93, 31);
        roundedIs(-3, LOWEST, -94, -1);
        roundedIs(0, 0, 0, 0);
        roundedIs(0, 1, HIGHEST, -1);
        roundedIs(0, LOWEST, -1, -1);
    }

    /** One variable alone, each of the four in turn, and one bound on it; -1: no solution. */
    private void roundedIs(int factor, int least, int most, int due) {
        for (int v = 0; v < 4; v++) {
            RegularSolver x = new RegularSolver();
            int[] factors = new int[4];
            int[] lengths = new int[4];
            factors[v] = factor;
            lengths[v] = due;
            if (due < 0) {
                lengths[0] = due;
            }
            x.variable(v, x.again(x.letters(15)));
            x.bound(factors[0], factors[1], factors[2], factors[3], least, most);
            solved(x, 31, lengths);
        }
    }

    private void promise19Length() {
        RegularSolver x = new RegularSolver();
        for (int v : new int[] {-1, 4, LOWEST, HIGHEST}) {
            check.refused("length(" + v + "), none kept", ARGUMENT, () -> x.length(v));
        }
        check.refused("length(3), none kept", STATE, () -> x.length(3));
        x.variable(1, x.letters(0b0100));
        check.due("solve", 1, () -> Check.number(x.solve(1)));
        check.due("with a language", 1, () -> x.length(1));
        check.due("without", 0, () -> x.length(3));
        for (int v : new int[] {-1, 4, LOWEST, HIGHEST}) {
            check.refused("length(" + v + ")", ARGUMENT, () -> x.length(v));
        }
        x.bound(0, 1, 0, 0, 2, 2);
        check.due("no solution", 0, () -> Check.number(x.solve(1)));
        check.refused("none is kept", STATE, () -> x.length(1));
    }

    private void promise20Word() {
        RegularSolver x = new RegularSolver();
        for (int v : new int[] {-1, 4, LOWEST, HIGHEST}) {
            check.refused("word(" + v + "), none kept", ARGUMENT, () -> x.word(v));
        }
        check.refused("word(0), none kept", STATE, () -> x.word(0));
        int high = x.letters(0b1100);
        int low = x.letters(0b0010);
        x.variable(0, x.then(high, low));
        x.variable(2, x.again(x.letters(0b1000)));
        x.bound(0, 0, 1, 0, 31, 31);
        check.due("solve", 1, () -> Check.number(x.solve(31)));
        check.due("2 1", 0b1001, () -> x.word(0));
        check.due("the empty word", 0, () -> x.word(1));
        check.due("31 letters 3", (1L << 62) - 1, () -> x.word(2));
        for (int v : new int[] {-1, 4, LOWEST, HIGHEST}) {
            check.refused("word(" + v + ")", ARGUMENT, () -> x.word(v));
        }
        check.due("no solution", 0, () -> Check.number(x.solve(30)));
        check.refused("none is kept", STATE, () -> x.word(0));
    }

    /** Lengths below 0: there is no solution. */
    private void solved(RegularSolver x, int m, int... lengths) {
        boolean due = lengths[0] >= 0;
        check.due("solve(" + m + ")", Check.number(due), () -> Check.number(x.solve(m)));
        for (int v = 0; v < 4; v++) {
            int asked = v;
            if (due) {
                check.due("solve(" + m + "), length(" + v + ")", lengths[v], () -> x.length(asked));
            } else {
                check.refused("solve(" + m + "), length(" + v + ")", STATE, () -> x.length(asked));
            }
        }
    }

    /** The successors of all states in a row, and the set of last states. */
    private void automatonIs(RegularSolver x, int a, String next, long last) {
        String[] rows = next.split(" ");
        int states = rows.length / 4;
        check.due("states of " + a, states, () -> x.automaton(a, 0, 0));
        check.due("last states of " + a, Long.bitCount(last), () -> x.automaton(a, 1, 0));
        for (int k = 0; k < rows.length; k++) {
            int asked = k;
            check.due("automaton(" + a + ", 2, " + k + ")", Long.parseLong(rows[k]), () -> x.automaton(a, 2, asked));
        }
        for (int k = 0; k < states; k++) {
            int asked = k;
            check.due("automaton(" + a + ", 3, " + k + ")", last >> k & 1, () -> x.automaton(a, 3, asked));
        }
        check.refused("a state more of " + a, INDEX, () -> x.automaton(a, 3, states));
    }

    /** One language n times behind itself, with few languages made on the way. */
    private static int doubled(RegularSolver x, int a, int n) {
        if (n == 1) {
            return a;
        }
        int half = doubled(x, a, n / 2);
        int even = x.then(half, half);
        return n % 2 == 0 ? even : x.then(even, a);
    }

    /** Words of a letter of one set, some of a second and one of a third. */
    private static int parts(RegularSolver x, int first, int middle, int times, int last) {
        int letter = x.letters(middle);
        int made = x.letters(first);
        for (int k = 0; k < times; k++) {
            made = x.then(made, letter);
        }
        return x.then(made, x.letters(last));
    }

    /** Words in which a letter stands a multiple of n times. */
    private static int multiples(RegularSolver x, int letter, int n) {
        int others = x.again(x.letters(15 & ~(1 << letter)));
        int step = x.then(x.letters(1 << letter), others);
        return x.then(others, x.again(doubled(x, step, n)));
    }

    /**
     * Two languages without a common word (they end with 2, with 3) that have 799 pairs of states:
     * 24 by 31 counts of letters 0 and 1, and a further state each for words of the language, which
     * are never met together: 25 * 32 - 1. An equal letter before both adds one pair to them.
     */
    private static int[] pairOf799(RegularSolver x) {
        int all = x.again(x.letters(15));
        int a = x.and(multiples(x, 0, 24), x.then(all, x.letters(0b0100)));
        int b = x.and(multiples(x, 1, 31), x.then(all, x.letters(0b1000)));
        return new int[] {a, b};
    }
}
