/** Each sentence of the document's terms that names a boundary case, as a test of its own. */
public final class BoundaryTermsTest {
    private final Check check = new Check("BoundaryTermsTest");

    public static void main(String[] args) {
        BoundaryTermsTest test = new BoundaryTermsTest();
        test.check.each(test);
        test.check.end();
    }

    void objectIsUsedFor512Calls() {
        check.sentence("An object is used for at most 512 calls after it has been made");
        RegularSolver x = new RegularSolver();
        for (int k = 0; k < 60; k++) {
            int set = k % 16;
            check.due("call " + (k + 1), k, () -> x.letters(set));
        }
        for (int k = 60; k < 510; k += 3) {
            int a = k % 60;
            check.due("call " + (k + 1), Long.bitCount(a % 16), () -> x.words(a, 1));
            check.refused("call " + (k + 2), Check.INDEX, () -> x.then(a, a));
            check.due("call " + (k + 3), 1, () -> Check.number(x.solve(a % 32)));
        }
        check.due("call 511", 3, () -> x.automaton(59, 0, 0));
        check.due("call 512", 3, () -> x.first(8, 1));
    }

    void term1LettersAre0To3() {
        check.sentence("LETTERS are 0..3.");
        RegularSolver x = new RegularSolver();
        for (int k = 0; k < 4; k++) {
            int letter = k;
            int a = x.letters(1 << letter);
            check.due("words of letter " + letter, 1, () -> x.words(a, 1));
            check.due("letter " + letter + " is one", 1, () -> Check.number(x.has(a, 1, letter)));
            check.due("it leads to a last state", 1, () -> x.automaton(a, 3, x.automaton(a, 2, letter)));
        }
        check.refused("there is no letter 4", Check.ARGUMENT, () -> x.letters(1 << 4));
    }

    void term1LanguagesAreNumberedAsMade() {
        check.sentence("LANGUAGES are numbered as they are made");
        RegularSolver x = new RegularSolver();
        check.due("letters", 0, () -> x.letters(3));
        check.due("empty", 1, () -> x.empty());
        check.due("then", 2, () -> x.then(0, 1));
        check.due("or", 3, () -> x.or(0, 1));
        check.due("and", 4, () -> x.and(0, 1));
        check.due("not", 5, () -> x.not(0));
        check.due("again", 6, () -> x.again(0));
        check.refused("what is refused", Check.ARGUMENT, () -> x.again(7));
        check.due("takes no number", 7, () -> x.not(6));
        check.due("the same once more is another", 8, () -> x.not(6));
    }

    void term1UpTo60Languages() {
        check.sentence("(up to 60)");
        RegularSolver x = new RegularSolver();
        for (int k = 0; k < 59; k++) {
            check.due("language " + k, k, x::empty);
        }
        check.due("the last one", 59, () -> x.letters(0b0101));
        check.refused("one more", Check.INDEX, () -> x.letters(0b1111));
        check.due("the last one stands", 2, () -> x.words(59, 1));
        check.due("and can be asked for", 1, () -> Check.number(x.within(59, 59)));
        x.variable(0, 59);
        check.due("and solved for", 1, () -> Check.number(x.solve(1)));
        check.refused("there is no language 60", Check.ARGUMENT, () -> x.words(60, 1));
    }

    void term1OneLetterOutOfNone() {
        check.sentence("all words of one letter out of a set");
        RegularSolver x = new RegularSolver();
        int none = x.letters(0);
        int every = x.letters(15);
        check.due("out of none", -1, () -> x.shortest(none));
        for (int n : new int[] {0, 2, 31, 1000}) {
            check.due("words of " + n + " letters out of none", 0, () -> x.words(none, n));
            check.due("words of " + n + " letters", 0, () -> x.words(every, n));
        }
        check.due("one letter out of none", 0, () -> x.words(none, 1));
        check.due("one letter out of all", 4, () -> x.words(every, 1));
    }

    void term1TheEmptyWordAlone() {
        check.sentence("the empty word alone");
        RegularSolver x = new RegularSolver();
        int empty = x.empty();
        check.due("the empty word", 1, () -> x.words(empty, 0));
        for (int n : new int[] {1, 2, 31, 1000}) {
            check.due("words of " + n + " letters", 0, () -> x.words(empty, n));
        }
    }

    void term1ThenWithNoneOrTheEmptyWord() {
        check.sentence("a then b: words of a with words of b behind them");
        RegularSolver x = new RegularSolver();
        int some = x.letters(0b0110);
        int empty = x.empty();
        int none = x.letters(0);
        sameLanguage(x, "the empty word before", x.then(empty, some), some);
        sameLanguage(x, "the empty word behind", x.then(some, empty), some);
        sameLanguage(x, "none before", x.then(none, some), none);
        sameLanguage(x, "none behind", x.then(some, none), none);
        sameLanguage(x, "both empty words", x.then(empty, empty), empty);
        int maybe = x.or(some, empty);
        int two = x.then(maybe, maybe);
        check.due("both may be empty", 1, () -> x.words(two, 0));
        check.due("one may be", 2, () -> x.words(two, 1));
        check.due("none need be", 4, () -> x.words(two, 2));
    }

    void term1OrAndWithNoneOrAll() {
        check.sentence("a or b, a and b");
        RegularSolver x = new RegularSolver();
        int some = x.letters(0b0110);
        int none = x.letters(0);
        int all = Made.all(x);
        sameLanguage(x, "or none", x.or(some, none), some);
        sameLanguage(x, "none or", x.or(none, some), some);
        sameLanguage(x, "or all", x.or(some, all), all);
        sameLanguage(x, "or itself", x.or(some, some), some);
        sameLanguage(x, "and none", x.and(some, none), none);
        sameLanguage(x, "and all", x.and(some, all), some);
        sameLanguage(x, "all and", x.and(all, some), some);
        sameLanguage(x, "and itself", x.and(some, some), some);
        sameLanguage(x, "and the other words", x.and(some, x.not(some)), none);
        sameLanguage(x, "or the other words", x.or(some, x.not(some)), all);
    }

    void term1NotHasAllOtherWords() {
        check.sentence("not a (all other words)");
        RegularSolver x = new RegularSolver();
        int none = x.letters(0);
        int all = Made.all(x);
        sameLanguage(x, "not none", x.not(none), all);
        sameLanguage(x, "not all", x.not(all), none);
        int notEmpty = x.not(x.empty());
        check.due("not the empty word", 0, () -> x.words(notEmpty, 0));
        check.due("all others", 1L << 62, () -> x.words(notEmpty, 31));
        int notTwo = x.not(x.letters(0b0100));
        check.due("the empty word is another one", 1, () -> x.words(notTwo, 0));
        check.due("of one letter", 3, () -> x.words(notTwo, 1));
        check.due("of two letters", 16, () -> x.words(notTwo, 2));
    }

    void term1AgainHasNoneOneOrMore() {
        check.sentence("a again: none, one or more words of a, one behind the other");
        RegularSolver x = new RegularSolver();
        int empty = x.empty();
        int two = x.then(x.letters(0b0010), x.letters(0b0100));
        int again = x.again(two);
        for (int n = 0; n <= 31; n++) {
            int asked = n;
            check.due("words of " + n + " letters", 1 - n % 2, () -> x.words(again, asked));
        }
        check.due("one", 0b0110, () -> x.first(again, 2));
        check.due("two", 0b01100110, () -> x.first(again, 4));
        sameLanguage(x, "of none", x.again(x.letters(0)), empty);
        sameLanguage(x, "of the empty word", x.again(empty), empty);
        sameLanguage(x, "of again", x.again(again), again);
        sameLanguage(x, "of one with the empty word", x.again(x.or(two, empty)), again);
    }

    void term1AutomatonIsCompleteWithFewestStates() {
        check.sentence("Its AUTOMATON is the complete one with the fewest STATES");
        RegularSolver x = new RegularSolver();
        check.automaton(x, x.letters(0), "0 0 0 0", 0);
        check.automaton(x, Made.all(x), "0 0 0 0", 1);
        check.automaton(x, x.empty(), "1 1 1 1 1 1 1 1", 0b01);
        check.automaton(x, x.letters(15), "1 1 1 1 2 2 2 2 2 2 2 2", 0b010);
        int sixteen = x.again(Made.allOf(x, 16));
        int eight = x.again(Made.allOf(x, 8));
        int four = x.again(Made.allOf(x, 4));
        check.automaton(x, x.or(sixteen, four), "1 1 1 1 2 2 2 2 3 3 3 3 0 0 0 0", 0b0001);
        sameLanguage(x, "sixteen of eight", x.and(sixteen, eight), sixteen);
    }

    void term1StatesAreNumberedAsComeTo() {
        check.sentence("STATES are numbered from 0, the first one, on, as they are come to: "
                + "STATE by STATE, LETTER by LETTER");
        RegularSolver x = new RegularSolver();
        // The first one is a last one, or the one to which all lead back: still it is 0.
        check.automaton(x, Made.rows(x, 3, 1), "1 1 1 0 1 1 1 1", 0b01);
        check.automaton(x, x.letters(0b0001), "1 2 2 2 2 2 2 2 2 2 2 2", 0b010);
        check.automaton(x, x.letters(0b1000), "1 1 1 2 1 1 1 1 1 1 1 1", 0b100);
        // State by state: what state 0 leads to by letter 2 comes before what state 1 does by 0.
        check.automaton(x, x.then(x.letters(0b0011), x.letters(0b0101)),
                "1 1 2 2 3 2 3 2 2 2 2 2 2 2 2 2", 0b1000);
    }

    void term1ThenOf64And65States() {
        check.sentence("A LANGUAGE is not made (LARGE) if it would have more than 64");
        RegularSolver x = new RegularSolver();
        int any = x.letters(15);
        int sixtyOne = Made.times(x, any, 61);
        int sixtyTwo = x.then(sixtyOne, any);
        check.due("62 letters: states", 64, () -> x.automaton(sixtyTwo, 0, 0));
        check.due("it has its words", 62, () -> x.shortest(sixtyTwo));
        check.refused("63 letters", Check.UNSUPPORTED, () -> x.then(sixtyTwo, any));
        check.refused("63 letters, the other way", Check.UNSUPPORTED, () -> x.then(any, sixtyTwo));
        int three = Made.rows(x, 3, 17);
        int other = Made.rows(x, 3, 47);
        check.refused("738 states", Check.UNSUPPORTED, () -> x.then(three, other));
        check.due("none was made", other + 1, () -> x.empty());
    }

    void term1OrOf64And65States() {
        check.sentence("A LANGUAGE is not made (LARGE) if it would have more than 64");
        RegularSolver x = new RegularSolver();
        int long62 = Made.allOf(x, 62);
        int zero = x.letters(0b0001);
        int made = x.or(long62, x.empty());
        check.due("the empty word adds none to 64", 64, () -> x.automaton(made, 0, 0));
        check.refused("letter 0 adds one", Check.UNSUPPORTED, () -> x.or(long62, zero));
        check.refused("on either side", Check.UNSUPPORTED, () -> x.or(zero, long62));
        check.due("none was made", made + 1, () -> x.empty());
    }

    void term1AndOf64And65States() {
        check.sentence("A LANGUAGE is not made (LARGE) if it would have more than 64");
        RegularSolver x = new RegularSolver();
        int not62 = x.not(Made.allOf(x, 62));
        int notZero = x.not(x.letters(0b0001));
        int made = x.and(not62, x.not(x.empty()));
        check.due("64 states", 64, () -> x.automaton(made, 0, 0));
        check.refused("65 states", Check.UNSUPPORTED, () -> x.and(not62, notZero));
        check.refused("on either side", Check.UNSUPPORTED, () -> x.and(notZero, not62));
        check.due("none was made", made + 1, () -> x.empty());
    }

    void term1AgainOf64And65States() {
        check.sentence("A LANGUAGE is not made (LARGE) if it would have more than 64");
        // Of lengths 3 and 32 all from 62 on can be put together, but not 61: 0 to 61, all the
        // rest, and the state that a wrong letter leads to. Of 5 and 17 all from 64 on, but not 63.
        RegularSolver x = new RegularSolver();
        int zero = x.letters(0b0001);
        int some = x.or(Made.times(x, zero, 3), Made.times(x, zero, 32));
        int made = x.again(some);
        check.due("64 states", 64, () -> x.automaton(made, 0, 0));
        int any = x.letters(15);
        int more = x.or(Made.times(x, any, 5), Made.times(x, any, 17));
        check.refused("65 states", Check.UNSUPPORTED, () -> x.again(more));
        check.due("none was made", more + 1, () -> x.empty());
    }

    void term1ThenOf800And801OnTheWay() {
        check.sentence("or if the way that follows comes to more than 800 (then ..");
        // By each 17 letters 3 the set gets one more, until it has all 47: 17 * 47 states. By other
        // letters both are lost. All words but the empty one are made.
        RegularSolver x = new RegularSolver();
        int front = Made.rows(x, 3, 17);
        int back = x.not(Made.rows(x, 3, 47));
        check.automaton(x, x.then(front, back), "1 1 1 1 1 1 1 1", 0b10);
        RegularSolver y = new RegularSolver();
        int longer = Made.rows(y, 3, 25);
        int shorter = y.not(Made.rows(y, 3, 32));
        check.refused("801", Check.UNSUPPORTED, () -> y.then(longer, shorter));
        check.due("none was made", shorter + 1, () -> y.empty());
    }

    void term1OrOf800And801OnTheWay() {
        check.sentence("or if the way that follows comes to more than 800 (.. or ..");
        RegularSolver x = new RegularSolver();
        int[] at800 = Made.apart(x, 3, 38, 21);
        int one = x.not(at800[0]);
        int other = x.not(at800[1]);
        check.automaton(x, x.or(one, other), "0 0 0 0", 1);
        check.automaton(x, x.or(other, one), "0 0 0 0", 1);
        RegularSolver y = new RegularSolver();
        int[] at801 = Made.apart(y, 3, 47, 17);
        int oneMore = y.not(at801[0]);
        int otherMore = y.not(at801[1]);
        check.refused("801", Check.UNSUPPORTED, () -> y.or(oneMore, otherMore));
        check.refused("801 the other way", Check.UNSUPPORTED, () -> y.or(otherMore, oneMore));
        check.due("none was made", otherMore + 1, () -> y.empty());
    }

    void term1AndOf800And801OnTheWay() {
        check.sentence("or if the way that follows comes to more than 800 (.. and ..");
        RegularSolver x = new RegularSolver();
        int[] at800 = Made.apart(x, 3, 38, 21);
        check.automaton(x, x.and(at800[0], at800[1]), "0 0 0 0", 0);
        check.automaton(x, x.and(at800[1], at800[0]), "0 0 0 0", 0);
        RegularSolver y = new RegularSolver();
        int[] at801 = Made.apart(y, 3, 47, 17);
        check.refused("801", Check.UNSUPPORTED, () -> y.and(at801[0], at801[1]));
        check.refused("801 the other way", Check.UNSUPPORTED, () -> y.and(at801[1], at801[0]));
        check.due("none was made", at801[1] + 1, () -> y.empty());
    }

    void term1AgainOf800And801OnTheWay() {
        check.sentence("or if the way that follows comes to more than 800 (.. again ..");
        // Made are 37 letters 3 again, and all words with another letter, but for 0 alone and 0
        // behind 19 letters 3: counts 0 to 19, 37 more, all words, and all but for the empty one.
        RegularSolver x = new RegularSolver();
        int made = x.again(Made.stretched(x, 37, 19));
        int rows = Made.rows(x, 3, 37);
        check.due("states", 59, () -> x.automaton(made, 0, 0));
        check.due("37 letters 3", 1, () -> Check.number(x.within(rows, made)));
        check.due("of one letter", 2, () -> x.words(made, 1));
        check.due("of 20 letters", (1L << 40) - 2, () -> x.words(made, 20));
        RegularSolver y = new RegularSolver();
        int at801 = Made.stretched(y, 16, 45);
        check.refused("801", Check.UNSUPPORTED, () -> y.again(at801));
        check.due("none was made", at801 + 1, () -> y.empty());
    }

    void term1AllFourLettersAreLookedAt() {
        check.sentence("of each STATE all four LETTERS are looked at");
        for (int letter = 0; letter < 4; letter++) {
            RegularSolver x = new RegularSolver();
            int[] at800 = Made.apart(x, letter, 38, 21);
            check.due("800 by letter " + letter, at800[1] + 1, () -> x.and(at800[0], at800[1]));
            RegularSolver y = new RegularSolver();
            int[] at801 = Made.apart(y, letter, 47, 17);
            check.refused("801 by letter " + letter, Check.UNSUPPORTED, () -> y.and(at801[0], at801[1]));
        }
    }

    void term1NotAndWithinHaveNoWay() {
        check.sentence("(then, or, and, again;");
        RegularSolver x = new RegularSolver();
        int long62 = Made.allOf(x, 62);
        int other = x.not(long62);
        check.due("not of 64 states", 64, () -> x.automaton(other, 0, 0));
        check.due("63 of them last ones", 63, () -> x.automaton(other, 1, 0));
        RegularSolver y = new RegularSolver();
        int[] apart = Made.apart(y, 3, 61, 62);
        int notOther = y.not(apart[1]);
        check.refused("3784 pairs are LARGE", Check.UNSUPPORTED, () -> y.and(apart[0], apart[1]));
        check.due("but not within", 1, () -> Check.number(y.within(apart[0], notOther)));
        // The first word that is not within has 61 * 62 letters.
        int some = y.and(Made.rows(y, 3, 61), y.not(y.empty()));
        check.due("all pairs count", 0, () -> Check.number(y.within(some, notOther)));
    }

    void term1ThenBeginsWithOrWithoutTheSecond() {
        check.sentence("the first ones of a, and of b, if that of a is a last one (else none)");
        RegularSolver x = new RegularSolver();
        int zero = x.letters(0b0001);
        int one = x.letters(0b0010);
        int without = x.then(zero, one);
        check.due("no word of b alone", 0, () -> x.words(without, 1));
        check.due("but both", 1, () -> x.first(without, 2));
        int with = x.then(x.or(zero, x.empty()), one);
        check.due("a word of b alone", 1, () -> x.first(with, 1));
        check.due("and both", 1, () -> x.first(with, 2));
        check.due("and no more", 1, () -> x.words(with, 2));
    }

    void term1AgainBeginsWithALastOne() {
        check.sentence("the first one's set is empty (and it is a last one)");
        RegularSolver x = new RegularSolver();
        int again = x.again(x.then(x.letters(0b0001), x.letters(0b0010)));
        check.due("the first one is a last one", 1, () -> x.automaton(again, 3, 0));
        // The first one of a is none: behind 0 it is come to again and no word ends there.
        int part = x.then(x.again(x.letters(0b0001)), x.letters(0b0010));
        check.automaton(x, x.again(part), "1 0 2 2 1 0 2 2 2 2 2 2", 0b001);
    }

    void term2WordsHaveUpTo31Letters() {
        check.sentence("of up to 31 LETTERS");
        RegularSolver x = new RegularSolver();
        int threes = Made.rows(x, 3, 1);
        long most = (1L << 62) - 1;
        check.due("a word of none", 0, () -> x.first(threes, 0));
        check.due("a word of 31", most, () -> x.first(threes, 31));
        check.due("is one", 1, () -> Check.number(x.has(threes, 31, most)));
        check.refused("none of 32", Check.ARGUMENT, () -> x.first(threes, 32));
        x.variable(3, threes);
        x.bound(0, 0, 0, 1, 31, 31);
        check.due("a solution of 31", 1, () -> Check.number(x.solve(31)));
        check.due("its word", most, () -> x.word(3));
    }

    void term2TheFirstLetterStandsHighest() {
        check.sentence("its LETTERS in two bits each, the first one in the highest of them");
        RegularSolver x = new RegularSolver();
        int all = Made.all(x);
        int three = x.letters(0b1000);
        int start = x.then(three, all);
        int end = x.then(all, three);
        for (int n = 1; n <= 31; n++) {
            int asked = n;
            long highest = 3L << (2 * n - 2);
            check.due("first of " + n, highest, () -> x.first(start, asked));
            check.due("last of " + n, 3, () -> x.first(end, asked));
            check.due("3 first of " + n, 1, () -> Check.number(x.has(start, asked, highest)));
            check.due("3 last of " + n, 1, () -> Check.number(x.has(end, asked, 3)));
            check.due("3 not first of " + n, n == 1 ? 1 : 0, () -> Check.number(x.has(start, asked, 3)));
            check.due("3 not last of " + n, n == 1 ? 1 : 0, () -> Check.number(x.has(end, asked, highest)));
        }
    }

    void term2WordsAreOrderedLetterByLetter() {
        check.sentence("Words of one length are ordered LETTER by LETTER.");
        RegularSolver x = new RegularSolver();
        int late = x.then(x.letters(0b0001), x.letters(0b1000));
        int early = x.then(x.letters(0b0010), x.letters(0b0001));
        int both = x.or(late, early);
        check.due("0 3 before 1 0", 0b0011, () -> x.first(both, 2));
        int same = x.then(x.letters(0b0100), x.letters(0b1010));
        check.due("2 1 before 2 3", 0b1001, () -> x.first(same, 2));
        int blind = x.or(x.letters(0b0010), x.then(x.letters(0b0001), x.letters(0b1000)));
        check.due("0 begins no word of one letter", 1, () -> x.first(blind, 1));
    }

    void term3VariablesAre0To3() {
        check.sentence("THE SOLVER has VARIABLES 0..3");
        for (int v = 0; v < 4; v++) {
            RegularSolver x = new RegularSolver();
            int asked = v;
            x.variable(v, x.letters(1 << v));
            check.due("solve", 1, () -> Check.number(x.solve(1)));
            for (int w = 0; w < 4; w++) {
                int other = w;
                check.due("length(" + w + ")", w == v ? 1 : 0, () -> x.length(other));
            }
            check.due("word(" + v + ")", v, () -> x.word(asked));
        }
    }

    void term3VariablesWithoutALanguage() {
        check.sentence("each with a LANGUAGE or none .. others the empty word");
        RegularSolver x = new RegularSolver();
        x.variable(1, x.letters(0b1000));
        x.bound(1, 0, 1, 1, 0, 0);
        check.due("the empty words hold it", 1, () -> Check.number(x.solve(31)));
        for (int v : new int[] {0, 2, 3}) {
            check.due("length(" + v + ")", 0, () -> x.length(v));
            check.due("word(" + v + ")", 0, () -> x.word(v));
        }
        x.clear();
        x.bound(1, 1, 1, 1, 1, Check.HIGHEST);
        check.due("they get no longer", 0, () -> Check.number(x.solve(31)));
    }

    void term3UpTo8Bounds() {
        check.sentence("BOUNDS (up to 8)");
        for (int k = 1; k <= 8; k++) {
            RegularSolver x = new RegularSolver();
            x.variable(0, Made.all(x));
            for (int i = 1; i <= 8; i++) {
                int number = i;
                int least = i == k ? 3 : 0;
                check.due("bound " + i, i, () -> x.bound(1, 0, 0, 0, least, 20 + number));
            }
            check.refused("a ninth", Check.INDEX, () -> x.bound(1, 0, 0, 0, 9, 9));
            check.due("solve", 1, () -> Check.number(x.solve(31)));
            check.due("bound " + k + " counts", 3, () -> x.length(0));
        }
    }

    void term3AllBoundsHold() {
        check.sentence("all BOUNDS hold");
        for (int k = 1; k <= 8; k++) {
            RegularSolver x = new RegularSolver();
            for (int i = 1; i <= 8; i++) {
                int least = i == k ? 1 : 0;
                int number = i;
                check.due("bound " + i, number, () -> x.bound(1, 1, 1, 1, least, 9));
            }
            check.due("bound " + k + " alone does not", 0, () -> Check.number(x.solve(31)));
        }
    }

    void term3FactorsFromMinus100To100() {
        check.sentence("four factors (-100 to 100)");
        for (int v = 0; v < 4; v++) {
            for (int factor : new int[] {-100, -99, -1, 1, 99, 100}) {
                RegularSolver x = new RegularSolver();
                int asked = v;
                x.variable(v, Made.all(x));
                check.due("factor " + factor, 1, () -> boundOn(x, asked, factor, 31 * factor, 31 * factor));
                check.due("solve", 1, () -> Check.number(x.solve(31)));
                check.due("length(" + v + ")", 31, () -> x.length(asked));
            }
            for (int factor : new int[] {-101, 101}) {
                RegularSolver x = new RegularSolver();
                int asked = v;
                check.refused("factor " + factor, Check.ARGUMENT, () -> boundOn(x, asked, factor, 0, 0));
            }
        }
        RegularSolver x = new RegularSolver();
        int all = Made.all(x);
        for (int v = 0; v < 4; v++) {
            x.variable(v, all);
        }
        x.bound(100, 100, 100, 100, 12400, Check.HIGHEST);
        x.bound(-100, -100, -100, -100, Check.LOWEST, -12400);
        check.due("the greatest sums", 1, () -> Check.number(x.solve(31)));
        check.due("of 30 letters", 0, () -> Check.number(x.solve(30)));
    }

    void term3FromTheLeastToTheGreatest() {
        check.sentence("the sum of factors by lengths of the VARIABLES is from the one to the other");
        lengthIs(2, 1, 2, 2);
        lengthIs(2, 1, 2, 3);
        lengthIs(0, 1, -5, 0);
        lengthIs(-1, 1, -5, -1);
        lengthIs(31, 1, 31, 40);
        lengthIs(-1, 1, 32, 40);
        lengthIs(2, -1, -3, -2);
        lengthIs(31, -1, -40, -31);
        lengthIs(-1, -1, -40, -32);
        lengthIs(-1, 3, 4, 5);
        lengthIs(2, 3, 4, 6);
        lengthIs(1, 3, 3, 5);
        lengthIs(0, 3, -1, 2);
        lengthIs(31, 3, 93, 95);
        lengthIs(-1, 3, 94, 95);
        lengthIs(-1, -3, -5, -4);
        lengthIs(2, -3, -6, -4);
        lengthIs(1, -3, -5, -3);
        lengthIs(0, -3, -2, 1);
        lengthIs(31, -3, -95, -93);
        lengthIs(-1, -3, -95, -94);
        lengthIs(0, 0, 0, 0);
        lengthIs(-1, 0, 1, 1);
        lengthIs(-1, 0, -1, -1);
    }

    void term3FromTheLeastToTheGreatestWithAllFour() {
        check.sentence("four factors (-100 to 100) and a least and greatest number");
        lastLengthIs(0, 3, -2, 2);
        lastLengthIs(-1, 3, Check.LOWEST, -1);
        lastLengthIs(-1, 3, 1, 2);
        lastLengthIs(1, 3, 1, 3);
        lastLengthIs(31, 3, 91, Check.HIGHEST);
        lastLengthIs(0, -3, -2, 2);
        lastLengthIs(-1, -3, 1, Check.HIGHEST);
        lastLengthIs(-1, -3, -2, -1);
        lastLengthIs(1, -3, -3, -1);
        lastLengthIs(31, -3, Check.LOWEST, -91);
        for (int factor : new int[] {-100, -1, 0, 1, 100}) {
            lastLengthIs(0, factor, Check.LOWEST, Check.HIGHEST);
            lastLengthIs(-1, factor, Check.HIGHEST, Check.HIGHEST);
            lastLengthIs(-1, factor, Check.LOWEST, Check.LOWEST);
        }
    }

    void term3LeastAndGreatestMayBeAnyNumber() {
        check.sentence("and a least and greatest number");
        for (int factor : new int[] {-100, 0, 100}) {
            lengthIs(0, factor, Check.LOWEST, Check.HIGHEST);
            lengthIs(-1, factor, Check.HIGHEST, Check.HIGHEST);
            lengthIs(-1, factor, Check.LOWEST, Check.LOWEST);
            lengthIs(-1, factor, Check.HIGHEST, Check.LOWEST);
        }
        lengthIs(31, 100, 3100, Check.HIGHEST);
        lengthIs(-1, 100, 3101, Check.HIGHEST);
        lengthIs(0, 100, Check.LOWEST, 0);
        lengthIs(-1, 100, Check.LOWEST, -1);
        lengthIs(31, -100, Check.LOWEST, -3100);
        lengthIs(-1, -100, Check.LOWEST, -3101);
        lengthIs(0, -100, 0, Check.HIGHEST);
        lengthIs(-1, -100, 1, Check.HIGHEST);
    }

    void term3LengthsFrom0ToM() {
        check.sentence("a word of it, of length 0 to m");
        RegularSolver x = new RegularSolver();
        int all = Made.all(x);
        for (int m = 0; m <= 31; m++) {
            int most = m;
            x.clear();
            x.variable(2, all);
            check.due("solve(" + m + ")", 1, () -> Check.number(x.solve(most)));
            check.due("length 0", 0, () -> x.length(2));
            x.bound(0, 0, 1, 0, m, 40);
            check.due("solve(" + m + ") at m", 1, () -> Check.number(x.solve(most)));
            check.due("length m", m, () -> x.length(2));
            x.bound(0, 0, 1, 0, m + 1, 40);
            check.due("solve(" + m + ") above m", 0, () -> Check.number(x.solve(most)));
        }
    }

    void term3LanguageWithoutAShortWord() {
        check.sentence("gives each VARIABLE with a LANGUAGE a word of it");
        RegularSolver x = new RegularSolver();
        int none = x.letters(0);
        int three = Made.allOf(x, 3);
        int far = Made.allOf(x, 32);
        for (int v = 0; v < 4; v++) {
            x.clear();
            x.variable(v, none);
            check.due("no word", 0, () -> Check.number(x.solve(31)));
            x.variable(v, far);
            check.due("none of up to 31 letters", 0, () -> Check.number(x.solve(31)));
            x.variable(v, three);
            check.due("none of up to 2 letters", 0, () -> Check.number(x.solve(2)));
            check.due("one of 3", 1, () -> Check.number(x.solve(3)));
        }
    }

    void term3LeastLengthsInOrderAndFirstWords() {
        check.sentence("It finds the one with the least length of VARIABLE 0, then 1 .., "
                + "and of each the first word of that length.");
        RegularSolver x = new RegularSolver();
        int high = x.again(x.letters(0b1100));
        for (int v = 0; v < 4; v++) {
            x.variable(v, high);
        }
        x.bound(1, 1, 1, 1, 10, 10);
        check.solution(x, 31, 0, 0, 0, 10);
        check.solution(x, 4, 0, 2, 4, 4);
        check.due("its first word", 0b10101010, () -> x.word(3));
        check.due("and of another", 0b1010, () -> x.word(1));
        x.bound(1, -1, 0, 0, 1, 31);
        check.solution(x, 4, 2, 0, 4, 4);
        x.bound(0, 0, -1, 1, -31, -1);
        check.solution(x, 4, 2, 1, 4, 3);
    }

    private static int boundOn(RegularSolver x, int v, int factor, int least, int most) {
        int[] factors = new int[4];
        factors[v] = factor;
        return x.bound(factors[0], factors[1], factors[2], factors[3], least, most);
    }

    /** One variable alone, each of the four in turn, and one bound on it; -1: no solution. */
    private void lengthIs(int due, int factor, int least, int most) {
        for (int v = 0; v < 4; v++) {
            RegularSolver x = new RegularSolver();
            String told = factor + " by length " + v + " from " + least + " to " + most;
            int asked = v;
            x.variable(v, Made.all(x));
            boundOn(x, v, factor, least, most);
            check.due(told, due < 0 ? 0 : 1, () -> Check.number(x.solve(31)));
            if (due < 0) {
                check.refused(told, Check.STATE, () -> x.length(asked));
            } else {
                check.due(told, due, () -> x.length(asked));
            }
        }
    }

    /**
     * All four variables, with one bound that has the same factor for each: the first three have
     * length 0, as long as the last one's length is enough; -1: no solution.
     */
    private void lastLengthIs(int due, int factor, int least, int most) {
        RegularSolver x = new RegularSolver();
        int all = Made.all(x);
        for (int v = 0; v < 4; v++) {
            x.variable(v, all);
        }
        x.bound(factor, factor, factor, factor, least, most);
        if (due < 0) {
            check.solution(x, 31);
        } else {
            check.solution(x, 31, 0, 0, 0, due);
        }
    }

    /** Each of both within the other, and the same automaton, of which there is just one. */
    private void sameLanguage(RegularSolver x, String what, int a, int b) {
        check.due(what + ": within", 1, () -> Check.number(x.within(a, b)));
        check.due(what + ": within, the other way", 1, () -> Check.number(x.within(b, a)));
        check.due(what + ": states", x.automaton(b, 0, 0), () -> x.automaton(a, 0, 0));
        check.due(what + ": last states", x.automaton(b, 1, 0), () -> x.automaton(a, 1, 0));
        for (int k = 0; k < 4 * x.automaton(b, 0, 0); k++) {
            int asked = k;
            check.due(what + ": k = " + k, x.automaton(b, 2, k), () -> x.automaton(a, 2, asked));
            check.due(what + ": last", x.automaton(b, 3, k / 4), () -> x.automaton(a, 3, asked / 4));
        }
    }
}
