import java.util.Arrays;

/**
 * Languages of words of four letters, each kept as its least automaton, and a search for words
 * of some of them whose lengths keep bounds.
 */
public final class RegularSolver {
    private static final int LETTERS = 4;
    private static final int LETTER_SETS = 16;
    private static final int MOST_LANGUAGES = 60;
    private static final int MOST_STATES = 64;
    private static final int MOST_REACHED = 800;
    private static final int LONGEST_WORD = 31;
    private static final int LONGEST_COUNTED = 1000;
    private static final int VARIABLES = 4;
    private static final int MOST_BOUNDS = 8;
    private static final int GREATEST_FACTOR = 100;
    private static final int NONE = -1;

    private final Automaton[] languages = new Automaton[MOST_LANGUAGES];
    private int languageCount = 0;
    private final Maker maker = new Maker();
    private final Counter counter = new Counter();
    private final Inclusion inclusion = new Inclusion();
    private final Search search = new Search();

    public RegularSolver() {
    }

    public int letters(int set) throws IllegalArgumentException, IndexOutOfBoundsException {
        if (set < 0 || set >= LETTER_SETS) {
            throw new IllegalArgumentException("set is not 0..15");
        }
        requireRoom();
        return keep(maker.make(new Brief(set, Brief.ONE_LETTER)));
    }

    public int empty() throws IndexOutOfBoundsException {
        requireRoom();
        return keep(maker.make(new Brief(0, Brief.NO_LETTER)));
    }

    public int then(int a, int b)
            throws IllegalArgumentException, IndexOutOfBoundsException, UnsupportedOperationException {
        requireLanguage(a);
        requireLanguage(b);
        requireRoom();
        return keep(maker.make(new Chain(languages[a], languages[b])));
    }

    public int or(int a, int b)
            throws IllegalArgumentException, IndexOutOfBoundsException, UnsupportedOperationException {
        requireLanguage(a);
        requireLanguage(b);
        requireRoom();
        return keep(maker.make(new Pairs(languages[a], languages[b], false)));
    }

    public int and(int a, int b)
            throws IllegalArgumentException, IndexOutOfBoundsException, UnsupportedOperationException {
        requireLanguage(a);
        requireLanguage(b);
        requireRoom();
        return keep(maker.make(new Pairs(languages[a], languages[b], true)));
    }

    public int not(int a) throws IllegalArgumentException, IndexOutOfBoundsException {
        requireLanguage(a);
        requireRoom();
        return keep(languages[a].opposite());
    }

    public int again(int a)
            throws IllegalArgumentException, IndexOutOfBoundsException, UnsupportedOperationException {
        requireLanguage(a);
        requireRoom();
        return keep(maker.make(new Repeat(languages[a])));
    }

    public int automaton(int a, int what, int k) throws IllegalArgumentException, IndexOutOfBoundsException {
        requireLanguage(a);
        Automaton asked = languages[a];
        switch (what) {
            case 0:
                return asked.states;
            case 1:
                return Long.bitCount(asked.last);
            case 2:
                requireIndex(k, LETTERS * asked.states);
                return asked.next[k];
            case 3:
                requireIndex(k, asked.states);
                return asked.isLast(k) ? 1 : 0;
            default:
                throw new IllegalArgumentException("what is not 0..3");
        }
    }

    public boolean has(int a, int n, long word) throws IllegalArgumentException {
        requireLanguage(a);
        requireBetween(n, 0, LONGEST_WORD);
        if (word < 0 || word >> (2 * n) != 0) {
            throw new IllegalArgumentException("word is not one of n letters");
        }
        return languages[a].accepts(n, word);
    }

    public long words(int a, int n) throws IllegalArgumentException {
        requireLanguage(a);
        requireBetween(n, 0, LONGEST_COUNTED);
        return counter.count(languages[a], n);
    }

    public long first(int a, int n) throws IllegalArgumentException, UnsupportedOperationException {
        requireLanguage(a);
        requireBetween(n, 0, LONGEST_WORD);
        if (!languages[a].hasLength(n)) {
            throw new UnsupportedOperationException("no word of n letters");
        }
        return languages[a].leastWord(n);
    }

    public int shortest(int a) throws IllegalArgumentException {
        requireLanguage(a);
        return languages[a].leastLength();
    }

    public boolean within(int a, int b) throws IllegalArgumentException {
        requireLanguage(a);
        requireLanguage(b);
        return inclusion.holds(languages[a], languages[b]);
    }

    public void variable(int v, int a) throws IllegalArgumentException {
        requireBetween(v, 0, VARIABLES - 1);
        if (a == NONE) {
            search.assign(v, null);
        } else {
            requireLanguage(a);
            search.assign(v, languages[a]);
        }
    }

    public int bound(int p, int q, int r, int s, int least, int most)
            throws IllegalArgumentException, IndexOutOfBoundsException {
        requireFactor(p);
        requireFactor(q);
        requireFactor(r);
        requireFactor(s);
        if (search.isFull()) {
            throw new IndexOutOfBoundsException("there are 8 bounds");
        }
        return search.addBound(p, q, r, s, least, most);
    }

    public void clear() {
        search.forget();
    }

    public boolean solve(int m) throws IllegalArgumentException {
        requireBetween(m, 0, LONGEST_WORD);
        return search.find(m);
    }

    public int length(int v) throws IllegalArgumentException, IllegalStateException {
        requireBetween(v, 0, VARIABLES - 1);
        requireSolution();
        return search.keptLengths[v];
    }

    public long word(int v) throws IllegalArgumentException, IllegalStateException {
        requireBetween(v, 0, VARIABLES - 1);
        requireSolution();
        return search.keptWords[v];
    }

    private void requireLanguage(int a) {
        if (a < 0 || a >= languageCount) {
            throw new IllegalArgumentException("no such language");
        }
    }

    private void requireRoom() {
        if (languageCount >= MOST_LANGUAGES) {
            throw new IndexOutOfBoundsException("there are 60 languages");
        }
    }

    private void requireSolution() {
        if (!search.isKept) {
            throw new IllegalStateException("no solution is kept");
        }
    }

    private static void requireIndex(int k, int count) {
        if (k < 0 || k >= count) {
            throw new IndexOutOfBoundsException("no such state");
        }
    }

    private static void requireBetween(int value, int least, int most) {
        if (value < least || value > most) {
            throw new IllegalArgumentException("a number is out of its range");
        }
    }

    private static void requireFactor(int factor) {
        requireBetween(factor, -GREATEST_FACTOR, GREATEST_FACTOR);
    }

    /** The new language's number; null stands for a language that is too large to be made. */
    private int keep(Automaton made) {
        if (made == null) {
            throw new UnsupportedOperationException("large");
        }
        languages[languageCount] = made;
        languageCount++;
        return languageCount - 1;
    }

    /** A complete least automaton; it never changes, so that languages may share its parts. */
    private static final class Automaton {
        final int states;
        final int[] next;
        /** A set of states, as all sets of states here: bit k for state k. */
        final long last;
        /**
         * Entry n: the states from which some n letters lead to a last one. A shortest word has
         * fewer letters than there are states, so 64 entries serve every question about lengths.
         */
        private final long[] ahead = new long[MOST_STATES];

        Automaton(int states, int[] next, long last) {
            this.states = states;
            this.next = next;
            this.last = last;
            ahead[0] = last;
            for (int n = 1; n < MOST_STATES; n++) {
                ahead[n] = statesBefore(states, next, ahead[n - 1]);
            }
        }

        private static long statesBefore(int states, int[] next, long targets) {
            long before = 0L;
            for (int state = 0; state < states; state++) {
                int row = LETTERS * state;
                long reached = targets >>> next[row] | targets >>> next[row + 1]
                        | targets >>> next[row + 2] | targets >>> next[row + 3];
                before |= (reached & 1L) << state;
            }
            return before;
        }

        int go(int state, int letter) {
            return next[LETTERS * state + letter];
        }

        long goAll(long set, int letter) {
            long gone = 0L;
            long rest = set;
            for (int state = 0; state < states && rest != 0L; state++) {
                if ((rest & 1L) != 0L) {
                    gone |= 1L << go(state, letter);
                }
                rest >>>= 1;
            }
            return gone;
        }

        boolean isLast(int state) {
            return (last >>> state & 1L) != 0L;
        }

        boolean hasLast(long set) {
            return (set & last) != 0L;
        }

        /** Least and numbered in order as it is: the two differ only in which states are last. */
        Automaton opposite() {
            return new Automaton(states, next, ~last & (-1L >>> (MOST_STATES - states)));
        }

        boolean accepts(int n, long word) {
            int state = 0;
            for (int place = n - 1; place >= 0; place--) {
                state = go(state, (int) (word >> (2 * place)) & (LETTERS - 1));
            }
            return isLast(state);
        }

        boolean hasLength(int n) {
            return (ahead[n] & 1L) != 0L;
        }

        int leastLength() {
            for (int n = 0; n < MOST_STATES; n++) {
                if (hasLength(n)) {
                    return n;
                }
            }
            return NONE;
        }

        /** Asked for only where there is a word of that length. */
        long leastWord(int n) {
            long word = 0L;
            int state = 0;
            for (int left = n - 1; left >= 0; left--) {
                int letter = leastLetter(state, ahead[left]);
                word = word << 2 | letter;
                state = go(state, letter);
            }
            return word;
        }

        private int leastLetter(int state, long targets) {
            for (int letter = 0; letter < LETTERS - 1; letter++) {
                if ((targets >>> go(state, letter) & 1L) != 0L) {
                    return letter;
                }
            }
            return LETTERS - 1;
        }

        /** Bit n for each length n up to m that a word of the language has. */
        long lengthsUpTo(int m) {
            long lengths = 0L;
            for (int n = 0; n <= m; n++) {
                lengths |= (ahead[n] & 1L) << n;
            }
            return lengths;
        }
    }

    /**
     * A way to a new language. Its states have two parts, a number and either a second number or
     * a set of states; begin and go leave the state that they come to in the two fields.
     */
    private abstract static class Way {
        int head = 0;
        long tail = 0L;

        abstract void begin();

        abstract void go(int fromHead, long fromTail, int letter);

        abstract boolean endsAt(int atHead, long atTail);
    }

    /** Words of one letter at most; the number tells how many letters of such a word are read. */
    private static final class Brief extends Way {
        static final int NO_LETTER = 0;
        static final int ONE_LETTER = 1;
        private static final int LOST = 2;

        private final int set;
        private final int end;

        Brief(int set, int end) {
            this.set = set;
            this.end = end;
        }

        void begin() {
            head = NO_LETTER;
        }

        void go(int fromHead, long fromTail, int letter) {
            boolean read = fromHead == NO_LETTER && (set >> letter & 1) != 0;
            head = read ? ONE_LETTER : LOST;
        }

        boolean endsAt(int atHead, long atTail) {
            return atHead == end;
        }
    }

    /** Or, and: a state of one, and the number of a state of the other. */
    private static final class Pairs extends Way {
        private final Automaton one;
        private final Automaton other;
        private final boolean both;

        Pairs(Automaton one, Automaton other, boolean both) {
            this.one = one;
            this.other = other;
            this.both = both;
        }

        void begin() {
            head = 0;
            tail = 0L;
        }

        void go(int fromHead, long fromTail, int letter) {
            head = one.go(fromHead, letter);
            tail = other.go((int) fromTail, letter);
        }

        boolean endsAt(int atHead, long atTail) {
            boolean oneEnds = one.isLast(atHead);
            boolean otherEnds = other.isLast((int) atTail);
            return both ? oneEnds && otherEnds : oneEnds || otherEnds;
        }
    }

    /** Then: a state of the front, and the set of states that backs begun so far are in. */
    private static final class Chain extends Way {
        private final Automaton front;
        private final Automaton back;

        Chain(Automaton front, Automaton back) {
            this.front = front;
            this.back = back;
        }

        void begin() {
            head = 0;
            tail = backBegunAt(0);
        }

        void go(int fromHead, long fromTail, int letter) {
            head = front.go(fromHead, letter);
            tail = back.goAll(fromTail, letter) | backBegunAt(head);
        }

        private long backBegunAt(int frontState) {
            return front.isLast(frontState) ? 1L : 0L;
        }

        boolean endsAt(int atHead, long atTail) {
            return back.hasLast(atTail);
        }
    }

    /** Again: a set of states; the empty one stands at the beginning alone. */
    private static final class Repeat extends Way {
        private final Automaton part;

        Repeat(Automaton part) {
            this.part = part;
        }

        void begin() {
            tail = 0L;
        }

        void go(int fromHead, long fromTail, int letter) {
            long begun = endsAt(fromHead, fromTail) ? 1L : 0L;
            tail = part.goAll(fromTail | begun, letter);
        }

        boolean endsAt(int atHead, long atTail) {
            return atTail == 0L || part.hasLast(atTail);
        }
    }

    /** Follows a way to all its states and joins those that no word tells apart. */
    private static final class Maker {
        private static final int SLOT_BITS = 11;
        private static final int SLOTS = 1 << SLOT_BITS;
        private static final int MARK_SLOT_BITS = 8;
        private static final int MARK_SLOTS = 1 << MARK_SLOT_BITS;
        private static final int CLASS_BITS = 6;
        /** Only the high bits of a product depend on all bits of its factor, so slots are taken there. */
        private static final long SPREAD = 0x9E3779B97F4A7C15L;
        private static final int MARK_SPREAD = 0x9E3779B1;

        private final int[] heads = new int[MOST_REACHED];
        private final long[] tails = new long[MOST_REACHED];
        private final int[] next = new int[LETTERS * MOST_REACHED];
        private final int[] slots = new int[SLOTS];
        private int reached = 0;

        private int[] classOf = new int[MOST_REACHED];
        private int[] finerOf = new int[MOST_REACHED];
        private final int[] markOf = new int[MOST_STATES];
        private final int[] firstOf = new int[MOST_STATES];
        private final int[] markSlots = new int[MARK_SLOTS];
        private int classes = 0;

        /** Null: the way comes to too many states, or the least automaton has too many. */
        Automaton make(Way way) {
            if (!follow(way)) {
                return null;
            }
            splitByEnd(way);
            if (!splitToTheEnd()) {
                return null;
            }
            return joined(way);
        }

        private boolean follow(Way way) {
            Arrays.fill(slots, NONE);
            reached = 0;
            way.begin();
            numberOf(way.head, way.tail);
            for (int from = 0; from < MOST_REACHED && from < reached; from++) {
                for (int letter = 0; letter < LETTERS; letter++) {
                    way.go(heads[from], tails[from], letter);
                    int to = numberOf(way.head, way.tail);
                    if (to == NONE) {
                        return false;
                    }
                    next[LETTERS * from + letter] = to;
                }
            }
            return true;
        }

        /** The number of a state, which gets the next one if it is new: NONE if that is too many. */
        private int numberOf(int head, long tail) {
            int slot = (int) ((tail * SPREAD + head) * SPREAD >>> (64 - SLOT_BITS));
            for (int tries = 0; tries < SLOTS; tries++) {
                int known = slots[slot];
                if (known == NONE) {
                    return addAt(slot, head, tail);
                }
                if (heads[known] == head && tails[known] == tail) {
                    return known;
                }
                slot = (slot + 1) % SLOTS;
            }
            return NONE;
        }

        private int addAt(int slot, int head, long tail) {
            if (reached >= MOST_REACHED) {
                return NONE;
            }
            heads[reached] = head;
            tails[reached] = tail;
            slots[slot] = reached;
            reached++;
            return reached - 1;
        }

        private void splitByEnd(Way way) {
            classes = 1;
            for (int state = 0; state < reached; state++) {
                classOf[state] = way.endsAt(heads[state], tails[state]) ? 1 : 0;
                if (classOf[state] != classOf[0]) {
                    classes = 2;
                }
            }
        }

        /**
         * False: there are more than 64 classes. Each turn but the last one adds a class, so 64
         * turns are enough.
         */
        private boolean splitToTheEnd() {
            for (int turn = 0; turn < MOST_STATES; turn++) {
                int before = classes;
                if (!splitByMarks()) {
                    return false;
                }
                if (classes == before) {
                    return true;
                }
            }
            return true;
        }

        /**
         * Classes are numbered by their first states. These were come to state by state, letter
         * by letter, so the classes have the order that the least automaton's states must have.
         */
        private boolean splitByMarks() {
            Arrays.fill(markSlots, NONE);
            classes = 0;
            for (int state = 0; state < reached; state++) {
                int found = classOfMark(markAt(state), state);
                if (found == NONE) {
                    return false;
                }
                finerOf[state] = found;
            }
            int[] coarser = classOf;
            classOf = finerOf;
            finerOf = coarser;
            return true;
        }

        /** A state's class and those of its four successors in one number: 30 bits. */
        private int markAt(int state) {
            int mark = classOf[state];
            for (int letter = 0; letter < LETTERS; letter++) {
                mark = mark << CLASS_BITS | classOf[next[LETTERS * state + letter]];
            }
            return mark;
        }

        private int classOfMark(int mark, int state) {
            int slot = mark * MARK_SPREAD >>> (32 - MARK_SLOT_BITS);
            for (int tries = 0; tries < MARK_SLOTS; tries++) {
                int known = markSlots[slot];
                if (known == NONE) {
                    return addClassAt(slot, mark, state);
                }
                if (markOf[known] == mark) {
                    return known;
                }
                slot = (slot + 1) % MARK_SLOTS;
            }
            return NONE;
        }

        private int addClassAt(int slot, int mark, int state) {
            if (classes >= MOST_STATES) {
                return NONE;
            }
            markOf[classes] = mark;
            firstOf[classes] = state;
            markSlots[slot] = classes;
            classes++;
            return classes - 1;
        }

        private Automaton joined(Way way) {
            int[] joinedNext = new int[LETTERS * classes];
            long last = 0L;
            for (int k = 0; k < classes; k++) {
                int state = firstOf[k];
                for (int letter = 0; letter < LETTERS; letter++) {
                    joinedNext[LETTERS * k + letter] = classOf[next[LETTERS * state + letter]];
                }
                if (way.endsAt(heads[state], tails[state])) {
                    last |= 1L << k;
                }
            }
            return new Automaton(classes, joinedNext, last);
        }
    }

    /** Counts the words of one length, from the end of the words to their beginning. */
    private static final class Counter {
        private long[] counts = new long[MOST_STATES];
        private long[] longerCounts = new long[MOST_STATES];

        long count(Automaton counted, int n) {
            for (int state = 0; state < counted.states; state++) {
                counts[state] = counted.isLast(state) ? 1L : 0L;
            }
            for (int turn = 0; turn < n; turn++) {
                addLetter(counted.states, counted.next);
            }
            return counts[0];
        }

        private void addLetter(int states, int[] next) {
            for (int state = 0; state < states; state++) {
                int row = LETTERS * state;
                longerCounts[state] = counts[next[row]] + counts[next[row + 1]]
                        + counts[next[row + 2]] + counts[next[row + 3]];
            }
            long[] shorter = counts;
            counts = longerCounts;
            longerCounts = shorter;
        }
    }

    /**
     * Whether one language is within another. The pairs of their states may be far more than a
     * new language is allowed, so they are kept as sets: one for each state of the inner one.
     */
    private static final class Inclusion {
        private static final int MOST_PAIRS = MOST_STATES * MOST_STATES;

        private final long[] seen = new long[MOST_STATES];
        private final long[] waiting = new long[MOST_STATES];

        boolean holds(Automaton inner, Automaton outer) {
            Arrays.fill(seen, 0L);
            Arrays.fill(waiting, 0L);
            seen[0] = 1L;
            waiting[0] = 1L;
            boolean more = true;
            for (int turn = 0; turn < MOST_PAIRS && more; turn++) {
                more = goOn(inner, outer);
            }
            for (int state = 0; state < inner.states; state++) {
                if (inner.isLast(state) && (seen[state] & ~outer.last) != 0L) {
                    return false;
                }
            }
            return true;
        }

        /** Whether any pair was waiting. */
        private boolean goOn(Automaton inner, Automaton outer) {
            boolean any = false;
            for (int state = 0; state < inner.states; state++) {
                long from = waiting[state];
                if (from != 0L) {
                    any = true;
                    waiting[state] = 0L;
                    for (int letter = 0; letter < LETTERS; letter++) {
                        comeTo(inner.go(state, letter), outer.goAll(from, letter));
                    }
                }
            }
            return any;
        }

        private void comeTo(int state, long outerStates) {
            long fresh = outerStates & ~seen[state];
            seen[state] |= fresh;
            waiting[state] |= fresh;
        }
    }

    /** The variables, the bounds and the solution that is kept. */
    private static final class Search {
        private final Automaton[] assigned = new Automaton[VARIABLES];
        private final int[][] factors = new int[MOST_BOUNDS][VARIABLES];
        private final int[] least = new int[MOST_BOUNDS];
        private final int[] most = new int[MOST_BOUNDS];
        private int boundCount = 0;

        /** Of each variable the lengths that its words may have: bit n for length n. */
        private final long[] allowed = new long[VARIABLES];
        /** Entry v of a bound: the least and greatest that variables from v on may add to its sum. */
        private final int[][] restLeast = new int[MOST_BOUNDS][VARIABLES + 1];
        private final int[][] restMost = new int[MOST_BOUNDS][VARIABLES + 1];
        private final int[] lengths = new int[VARIABLES];

        boolean isKept = false;
        final int[] keptLengths = new int[VARIABLES];
        final long[] keptWords = new long[VARIABLES];

        /** Null: no language. */
        void assign(int v, Automaton language) {
            assigned[v] = language;
        }

        boolean isFull() {
            return boundCount >= MOST_BOUNDS;
        }

        int addBound(int p, int q, int r, int s, int lower, int upper) {
            int[] row = factors[boundCount];
            row[0] = p;
            row[1] = q;
            row[2] = r;
            row[3] = s;
            least[boundCount] = lower;
            most[boundCount] = upper;
            boundCount++;
            return boundCount;
        }

        void forget() {
            for (int v = 0; v < VARIABLES; v++) {
                assigned[v] = null;
            }
            boundCount = 0;
            isKept = false;
        }

        boolean find(int m) {
            isKept = allowLengths(m) && findLengths();
            if (isKept) {
                keepWords();
            }
            return isKept;
        }

        /** False: a variable's language has no word that is short enough. */
        private boolean allowLengths(int m) {
            boolean all = true;
            for (int v = 0; v < VARIABLES; v++) {
                Automaton language = assigned[v];
                long some = language == null ? 1L : language.lengthsUpTo(m);
                // Where no bound weighs a length, a longer word helps no other variable.
                allowed[v] = isWeighed(v) ? some : some & -some;
                all = all && some != 0L;
            }
            return all;
        }

        private boolean isWeighed(int v) {
            for (int i = 0; i < boundCount; i++) {
                if (factors[i][v] != 0) {
                    return true;
                }
            }
            return false;
        }

        private boolean findLengths() {
            for (int i = 0; i < boundCount; i++) {
                sumRests(i);
            }
            return place(0);
        }

        private void sumRests(int i) {
            for (int v = VARIABLES - 1; v >= 0; v--) {
                int atShortest = factors[i][v] * shortestAllowed(v);
                int atLongest = factors[i][v] * longestAllowed(v);
                restLeast[i][v] = restLeast[i][v + 1] + Math.min(atShortest, atLongest);
                restMost[i][v] = restMost[i][v + 1] + Math.max(atShortest, atLongest);
            }
        }

        private int shortestAllowed(int v) {
            int n = 0;
            while (n < LONGEST_WORD && (allowed[v] >>> n & 1L) == 0L) {
                n++;
            }
            return n;
        }

        private int longestAllowed(int v) {
            int n = LONGEST_WORD;
            while (n > 0 && (allowed[v] >>> n & 1L) == 0L) {
                n--;
            }
            return n;
        }

        /** Gives lengths to the variables from v on, the least ones first. */
        private boolean place(int v) {
            if (v >= VARIABLES) {
                return true;
            }
            long open = openLengths(v);
            for (int n = 0; n <= LONGEST_WORD && open >>> n != 0L; n++) {
                if ((open >>> n & 1L) != 0L) {
                    lengths[v] = n;
                    if (place(v + 1)) {
                        return true;
                    }
                }
            }
            return false;
        }

        /**
         * The lengths of variable v that no bound forbids: each bound by itself could still hold
         * with some lengths of the variables behind. Behind the last one there is none, so with
         * these lengths of the last one every bound does hold.
         */
        private long openLengths(int v) {
            long from = 0L;
            long to = LONGEST_WORD;
            for (int i = 0; i < boundCount; i++) {
                // A long, since least and most may be any int.
                long sum = sumBefore(i, v);
                long lower = least[i] - sum - restMost[i][v + 1];
                long upper = most[i] - sum - restLeast[i][v + 1];
                int factor = factors[i][v];
                if (factor == 0 && (lower > 0L || upper < 0L)) {
                    return 0L;
                }
                if (factor > 0) {
                    from = Math.max(from, quotientAbove(lower, factor));
                    to = Math.min(to, Math.floorDiv(upper, (long) factor));
                }
                if (factor < 0) {
                    from = Math.max(from, quotientAbove(-upper, -factor));
                    to = Math.min(to, Math.floorDiv(-lower, (long) -factor));
                }
            }
            return from > to ? 0L : allowed[v] & bitsBetween((int) from, (int) to);
        }

        private int sumBefore(int i, int v) {
            int sum = 0;
            for (int w = 0; w < v; w++) {
                sum += factors[i][w] * lengths[w];
            }
            return sum;
        }

        private static long quotientAbove(long value, long divisor) {
            return -Math.floorDiv(-value, divisor);
        }

        private static long bitsBetween(int from, int to) {
            return (1L << (to + 1)) - (1L << from);
        }

        private void keepWords() {
            for (int v = 0; v < VARIABLES; v++) {
                Automaton language = assigned[v];
                keptLengths[v] = lengths[v];
                keptWords[v] = language == null ? 0L : language.leastWord(lengths[v]);
            }
        }
    }
}
