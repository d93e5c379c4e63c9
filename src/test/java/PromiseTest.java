import java.math.BigInteger;

/**
 * Each promise of the document by itself, with ordinary inputs and answers worked out by hand.
 * What the document says of boundary cases is tested sentence by sentence in the tests Boundary..
 */
public final class PromiseTest {
    private final Check check = new Check("PromiseTest");

    public static void main(String[] args) {
        PromiseTest test = new PromiseTest();
        test.check.each(test);
        test.check.end();
    }

    void promise01NewObject() {
        RegularSolver x = new RegularSolver();
        check.solution(x, 31, 0, 0, 0, 0);
        check.due("no bounds", 1, () -> x.bound(0, 0, 0, 0, 0, 0));
        check.due("no languages", 0, () -> x.empty());
        RegularSolver y = new RegularSolver();
        check.due("objects share no bounds", 1, () -> y.bound(0, 0, 0, 0, 0, 0));
        check.due("objects share no languages", 0, () -> y.empty());
    }

    void promise02Letters() {
        RegularSolver x = new RegularSolver();
        // Letter 0 leads on: the last state comes first; else the lost one does.
        check.automaton(x, x.letters(0b0001), "1 2 2 2 2 2 2 2 2 2 2 2", 0b010);
        check.automaton(x, x.letters(0b0110), "1 2 2 1 1 1 1 1 1 1 1 1", 0b100);
        check.automaton(x, x.letters(0b1111), "1 1 1 1 2 2 2 2 2 2 2 2", 0b010);
    }

    void promise03Empty() {
        RegularSolver x = new RegularSolver();
        check.due("empty()", 0, () -> x.empty());
        check.automaton(x, 0, "1 1 1 1 1 1 1 1", 0b01);
        check.due("the empty word", 1, () -> Check.number(x.has(0, 0, 0)));
        check.due("no other", 0, () -> x.words(0, 1));
        check.due("the next one", 1, () -> x.empty());
    }

    void promise04Then() {
        RegularSolver x = new RegularSolver();
        int front = x.letters(0b0011);
        int back = x.letters(0b0101);
        int both = x.then(front, back);
        check.automaton(x, both, "1 1 2 2 3 2 3 2 2 2 2 2 2 2 2 2", 0b1000);
        check.due("front comes first", 1, () -> Check.number(x.has(both, 2, 0b0110)));
        check.due("back comes last", 0, () -> Check.number(x.has(both, 2, 0b1001)));
        // Where the front ends may be told only by what stands behind.
        int zeros = x.again(x.letters(0b0001));
        int more = x.then(zeros, x.then(x.letters(0b0001), x.letters(0b0010)));
        check.automaton(x, more, "1 2 2 2 1 3 2 2 2 2 2 2 2 2 2 2", 0b1000);
    }

    void promise05Or() {
        RegularSolver x = new RegularSolver();
        int one = x.letters(0b0010);
        int two = x.then(one, one);
        int either = x.or(one, two);
        check.automaton(x, either, "1 2 1 1 1 1 1 1 1 3 1 1 1 1 1 1", 0b1100);
        check.due("of the one", 1, () -> x.words(either, 1));
        check.due("of the other", 1, () -> x.words(either, 2));
        check.due("of none", 0, () -> x.words(either, 3));
    }

    void promise06And() {
        RegularSolver x = new RegularSolver();
        int low = x.letters(0b0111);
        int high = x.letters(0b1110);
        check.automaton(x, x.and(low, high), "1 2 2 1 1 1 1 1 1 1 1 1", 0b100);
        int six = x.and(Made.rows(x, 0, 2), Made.rows(x, 0, 3));
        check.automaton(x, six, "1 2 2 2 3 2 2 2 2 2 2 2 4 2 2 2 5 2 2 2 6 2 2 2 0 2 2 2", 0b0000001);
    }

    void promise07Not() {
        RegularSolver x = new RegularSolver();
        int two = x.letters(0b0100);
        int other = x.not(two);
        check.automaton(x, other, "1 1 2 1 1 1 1 1 1 1 1 1", 0b011);
        check.automaton(x, x.not(other), "1 1 2 1 1 1 1 1 1 1 1 1", 0b100);
        check.automaton(x, two, "1 1 2 1 1 1 1 1 1 1 1 1", 0b100);
    }

    void promise08Again() {
        RegularSolver x = new RegularSolver();
        int one = x.letters(0b0010);
        int pairs = x.again(x.then(one, one));
        check.automaton(x, pairs, "1 2 1 1 1 1 1 1 1 0 1 1", 0b001);
        check.due("half of one", 0, () -> x.words(pairs, 1));
        check.due("three", 1, () -> x.words(pairs, 6));
        int mixed = x.again(x.or(x.letters(0b0001), x.then(one, one)));
        check.due("0 0 0, 0 1 1, 1 1 0", 3, () -> x.words(mixed, 3));
    }

    void promise09Automaton() {
        RegularSolver x = new RegularSolver();
        int two = x.letters(0b0100);
        check.due("states", 3, () -> x.automaton(two, 0, 0));
        check.due("last states", 1, () -> x.automaton(two, 1, 0));
        check.due("state 0 by letter 2", 2, () -> x.automaton(two, 2, 2));
        check.due("state 1 by letter 0", 1, () -> x.automaton(two, 2, 4));
        check.due("state 2 by letter 3", 1, () -> x.automaton(two, 2, 11));
        check.due("state 1 is no last one", 0, () -> x.automaton(two, 3, 1));
        check.due("state 2 is a last one", 1, () -> x.automaton(two, 3, 2));
    }

    void promise10Has() {
        RegularSolver x = new RegularSolver();
        int turns = x.again(x.then(x.letters(0b1100), x.letters(0b0010)));
        check.due("2 1 3 1", 1, () -> Check.number(x.has(turns, 4, 0b10011101)));
        check.due("2 1 1 3", 0, () -> Check.number(x.has(turns, 4, 0b10010111)));
        check.due("leading letters 0 count", 0, () -> Check.number(x.has(turns, 4, 0b1001)));
        check.due("2 1", 1, () -> Check.number(x.has(turns, 2, 0b1001)));
    }

    void promise11Words() {
        RegularSolver x = new RegularSolver();
        int three = x.again(x.letters(0b0111));
        int begun = x.then(x.letters(0b1001), three);
        for (int n : new int[] {0, 1, 2, 10, 39}) {
            long due = BigInteger.valueOf(3).pow(n).longValue();
            check.due("words of 3 letters, " + n, due, () -> x.words(three, n));
        }
        check.due("2 * 3 ** 4", 162, () -> x.words(begun, 5));
    }

    void promise12First() {
        RegularSolver x = new RegularSolver();
        int high = x.letters(0b1100);
        int low = x.letters(0b0010);
        int turns = x.again(x.then(high, low));
        check.due("2 1", 0b1001, () -> x.first(turns, 2));
        check.due("2 1 2 1", 0b10011001, () -> x.first(turns, 4));
        // Letter 1 is before 2, but no word of three letters begins with it.
        int wanted = x.or(low, x.then(high, x.then(low, high)));
        check.due("2 1 2", 0b100110, () -> x.first(wanted, 3));
        check.due("1", 1, () -> x.first(wanted, 1));
    }

    void promise13Shortest() {
        RegularSolver x = new RegularSolver();
        int any = x.letters(15);
        int three = x.then(any, x.then(any, any));
        int some = x.or(three, Made.times(x, any, 7));
        check.due("one letter", 1, () -> x.shortest(any));
        check.due("3 of 3 and 7", 3, () -> x.shortest(some));
    }

    void promise14Within() {
        RegularSolver x = new RegularSolver();
        int seven = x.again(Made.allOf(x, 7));
        int sixty = Made.allOf(x, 60);
        int not60 = x.not(sixty);
        int below60 = x.not(x.then(sixty, Made.all(x)));
        int not56 = x.not(Made.allOf(x, 56));
        check.due("60 is no multiple of 7", 1, () -> Check.number(x.within(seven, not60)));
        check.due("56 is one", 0, () -> Check.number(x.within(seven, not56)));
        check.due("63 is not below 60", 0, () -> Check.number(x.within(seven, below60)));
        RegularSolver y = new RegularSolver();
        int ofZeros = Made.multiples(y, 0, 60);
        int ofOnes = Made.multiples(y, 1, 59);
        int rows = Made.rows(y, 0, 30);
        check.due("30 zeros are no multiple of 60", 0, () -> Check.number(y.within(rows, ofZeros)));
        check.due("no ones are a multiple", 1, () -> Check.number(y.within(rows, ofOnes)));
        check.due("zeros count for themselves", 0, () -> Check.number(y.within(ofZeros, ofOnes)));
    }

    void promise15Variable() {
        RegularSolver x = new RegularSolver();
        int one = x.letters(0b0010);
        int two = x.then(one, one);
        x.variable(3, two);
        check.solution(x, 9, 0, 0, 0, 2);
        x.variable(3, one);
        check.solution(x, 9, 0, 0, 0, 1);
        x.variable(1, two);
        check.solution(x, 9, 0, 2, 0, 1);
    }

    void promise16Bound() {
        RegularSolver x = new RegularSolver();
        int all = Made.all(x);
        for (int v = 0; v < 4; v++) {
            x.variable(v, all);
        }
        check.due("the first one", 1, () -> x.bound(1, 2, 3, 4, 20, 25));
        check.solution(x, 31, 0, 0, 0, 5);
        check.due("the second one", 2, () -> x.bound(1, -1, 0, 1, 0, 3));
        check.solution(x, 31, 0, 0, 3, 3);
        check.due("the third one", 3, () -> x.bound(0, 1, -5, 0, 1, 9));
        check.solution(x, 31, 0, 2, 0, 4);
    }

    void promise17Clear() {
        RegularSolver x = new RegularSolver();
        int one = x.letters(0b0010);
        x.variable(0, one);
        x.variable(3, one);
        check.solution(x, 3, 1, 0, 0, 1);
        check.due("bound", 1, () -> x.bound(1, 0, 0, 0, 5, 5));
        check.runs("clear", () -> x.clear());
        check.refused("no solution", Check.STATE, () -> x.word(0));
        check.solution(x, 3, 0, 0, 0, 0);
        check.due("bounds anew", 1, () -> x.bound(0, 0, 0, 0, 0, 0));
        check.due("languages go on", 1, () -> x.empty());
    }

    void promise18Solve() {
        RegularSolver x = new RegularSolver();
        int all = Made.all(x);
        int twos = x.again(x.then(x.letters(0b0100), x.letters(0b1010)));
        x.variable(0, all);
        x.variable(1, all);
        x.variable(2, twos);
        x.bound(1, 1, 1, 0, 7, 7);
        check.solution(x, 7, 0, 1, 6, 0);
        check.solution(x, 31, 0, 1, 6, 0);
        check.solution(x, 6, 0, 1, 6, 0);
        check.solution(x, 3, 2, 3, 2, 0);
        check.solution(x, 2);
        x.bound(2, -3, 0, 100, -4, -4);
        check.solution(x, 10, 1, 2, 4, 0);
        x.bound(-100, 0, 0, 0, -1000, -200);
        check.solution(x, 10);
        x.clear();
        x.variable(3, twos);
        x.bound(50, 0, 0, -100, -2100, -1900);
        x.bound(0, 0, 0, 1, 20, 30);
        check.solution(x, 31, 0, 0, 0, 20);
        check.solution(x, 19);
        x.clear();
        for (int v = 0; v < 4; v++) {
            x.variable(v, all);
        }
        x.bound(2, 4, 6, 8, 3, 3);
        check.solution(x, 31);
    }

    void promise19Length() {
        RegularSolver x = new RegularSolver();
        x.variable(1, Made.allOf(x, 9));
        check.due("solve", 1, () -> Check.number(x.solve(12)));
        check.due("with a language", 9, () -> x.length(1));
        check.due("without", 0, () -> x.length(3));
    }

    void promise20Word() {
        RegularSolver x = new RegularSolver();
        x.variable(0, x.then(x.letters(0b1100), x.letters(0b0010)));
        x.variable(2, Made.rows(x, 3, 1));
        x.bound(0, 0, 1, 0, 4, 9);
        check.due("solve", 1, () -> Check.number(x.solve(31)));
        check.due("2 1", 0b1001, () -> x.word(0));
        check.due("the empty word", 0, () -> x.word(1));
        check.due("3 3 3 3", 0b11111111, () -> x.word(2));
    }
}
