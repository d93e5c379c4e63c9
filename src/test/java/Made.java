/** Languages that several tests need. */
final class Made {
    private Made() {
    }

    /** One language n times behind itself, with few languages made on the way. */
    static int times(RegularSolver x, int a, int n) {
        if (n == 1) {
            return a;
        }
        int half = times(x, a, n / 2);
        int even = x.then(half, half);
        return n % 2 == 0 ? even : x.then(even, a);
    }

    static int all(RegularSolver x) {
        return x.again(x.letters(15));
    }

    /** All words of n letters: n + 2 states, the one behind the words and the lost one among them. */
    static int allOf(RegularSolver x, int n) {
        return times(x, x.letters(15), n);
    }

    /** Words of one letter alone, a multiple of n of them: n + 1 states, one of them lost. */
    static int rows(RegularSolver x, int letter, int n) {
        return x.again(times(x, x.letters(1 << letter), n));
    }

    /** Words in which a letter stands a multiple of n times: n states. */
    static int multiples(RegularSolver x, int letter, int n) {
        int others = x.again(x.letters(15 & ~(1 << letter)));
        int step = x.then(x.letters(1 << letter), others);
        return x.then(others, x.again(times(x, step, n)));
    }

    /** Makes the empty word's language again and again, until there are 60. */
    static void fill(RegularSolver x) {
        int made = x.empty();
        while (made < 59) {
            made = x.empty();
        }
    }

    /**
     * Two languages without a common word. If p and q have no common divisor, they have p * q + 2
     * pairs of states: p by q counts of the letter; the end of the one with the other lost; both
     * lost. But for these two and the first one, each is come to by the letter alone, one by one.
     */
    static int[] apart(RegularSolver x, int letter, int p, int q) {
        int ended = x.then(rows(x, letter, p), x.letters(15 & ~(1 << letter)));
        return new int[] {ended, rows(x, letter, q)};
    }

    /**
     * Words that are p letters 3; or n letters 3, a letter that is no 3, and any word; but if the
     * letter is 0 and n a multiple of q, that word is not empty. This has p + q + 3 states: p + 1
     * counts, q counts above p, the ends of both kinds. If p and q have no common divisor, again
     * comes to (p + 1) * (q + 2) + 2 sets: the empty one; by letters 3 a count of 1 to p with 0 to q
     * of the counts above p, p * (q + 1); the first end, the second, both; the first end with all
     * counts from 1 to any of p + q. The last ones are come to one by one, each by letter 3.
     */
    static int stretched(RegularSolver x, int p, int q) {
        int three = x.letters(0b1000);
        int zero = x.letters(0b0001);
        int any = x.letters(15);
        int all = x.again(any);
        int some = x.again(three);
        int others = x.and(some, x.not(rows(x, 3, q)));
        int ended = x.or(x.then(some, x.then(x.letters(0b0110), all)), x.then(others, zero));
        int longer = x.then(some, x.then(zero, x.then(any, all)));
        return x.or(times(x, three, p), x.or(ended, longer));
    }
}
