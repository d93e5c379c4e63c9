import java.math.BigInteger;
import java.util.ArrayList;
import java.util.HashMap;
import java.util.HashSet;
import java.util.LinkedHashMap;
import java.util.List;
import java.util.Map;
import java.util.Set;
import java.util.TreeSet;
import java.util.function.Predicate;

/**
 * A second program for the same document, as slow and plain as can be: it follows the document's
 * words with sets and lists, shares no idea with the program, and is what that is tested against.
 */
final class Reference {
    /** Words of up to this many letters are also kept as they are, made by the words' own rules. */
    static final int SHORT = 4;

    /** A language's least automaton, and all its short words. */
    static final class Language {
        int[][] next;
        boolean[] last;
        Set<String> words = new HashSet<>();

        int run(String word) {
            int state = 0;
            for (char letter : word.toCharArray()) {
                state = next[state][letter - '0'];
            }
            return state;
        }

        TreeSet<Integer> after(int n) {
            TreeSet<Integer> states = new TreeSet<>(Set.of(0));
            for (int k = 0; k < n; k++) {
                TreeSet<Integer> gone = new TreeSet<>();
                for (int state : states) {
                    for (int to : next[state]) {
                        gone.add(to);
                    }
                }
                states = gone;
            }
            return states;
        }

        boolean hasLength(int n) {
            for (int state : after(n)) {
                if (last[state]) {
                    return true;
                }
            }
            return false;
        }
    }

    /** How the states of a way go on; a state is a list of numbers and sets. */
    interface Step {
        List<Object> go(List<Object> from, int letter);
    }

    private final List<Language> languages = new ArrayList<>();
    private final int[] variables = {-1, -1, -1, -1};
    private final List<int[]> bounds = new ArrayList<>();
    private int[] keptLengths = null;
    private long[] keptWords = null;
    /** How many states the last way came to; more than 800 are not counted. */
    int reached = 0;
    int tooManyReached = 0;
    int tooManyStates = 0;

    int count() {
        return languages.size();
    }

    Language language(int a) {
        if (a < 0 || a >= languages.size()) {
            throw new IllegalArgumentException();
        }
        return languages.get(a);
    }

    private void room() {
        if (languages.size() == 60) {
            throw new IndexOutOfBoundsException();
        }
    }

    int letters(int set) {
        if (set < 0 || set > 15) {
            throw new IllegalArgumentException();
        }
        room();
        Set<String> words = new HashSet<>();
        for (int letter = 0; letter < 4; letter++) {
            if ((set & 1 << letter) != 0) {
                words.add("" + letter);
            }
        }
        return make(List.of(0), (from, letter) -> {
            boolean one = from.get(0).equals(0) && (set & 1 << letter) != 0;
            return List.of(one ? 1 : 2);
        }, at -> at.get(0).equals(1), words);
    }

    int empty() {
        room();
        return make(List.of(0), (from, letter) -> List.of(1), at -> at.get(0).equals(0), Set.of(""));
    }

    int then(int a, int b) {
        Language front = language(a);
        Language back = language(b);
        room();
        Set<Integer> begun = front.last[0] ? Set.of(0) : Set.of();
        Step step = (from, letter) -> {
            int at = front.next[(Integer) from.get(0)][letter];
            Set<Integer> set = goAll(back, asSet(from.get(1)), letter);
            if (front.last[at]) {
                set.add(0);
            }
            return List.of(at, set);
        };
        return make(List.of(0, new TreeSet<>(begun)), step, at -> anyLast(back, asSet(at.get(1))),
                joined(front.words, back.words));
    }

    int or(int a, int b) {
        Language one = language(a);
        Language other = language(b);
        room();
        Set<String> words = new HashSet<>(one.words);
        words.addAll(other.words);
        return make(List.of(0, 0), pairs(one, other),
                at -> one.last[(Integer) at.get(0)] || other.last[(Integer) at.get(1)], words);
    }

    int and(int a, int b) {
        Language one = language(a);
        Language other = language(b);
        room();
        Set<String> words = new HashSet<>(one.words);
        words.retainAll(other.words);
        return make(List.of(0, 0), pairs(one, other),
                at -> one.last[(Integer) at.get(0)] && other.last[(Integer) at.get(1)], words);
    }

    int not(int a) {
        Language part = language(a);
        room();
        Set<String> words = new HashSet<>(shortWords());
        words.removeAll(part.words);
        return make(List.of(0), (from, letter) -> List.of(part.next[(Integer) from.get(0)][letter]),
                at -> !part.last[(Integer) at.get(0)], words);
    }

    int again(int a) {
        Language part = language(a);
        room();
        Set<String> words = new HashSet<>(Set.of(""));
        for (int k = 0; k < SHORT; k++) {
            words.addAll(joined(words, part.words));
        }
        Step step = (from, letter) -> {
            Set<Integer> set = new TreeSet<>(asSet(from.get(0)));
            if (set.isEmpty() || anyLast(part, set)) {
                set.add(0);
            }
            return List.of(goAll(part, set, letter));
        };
        return make(List.of(new TreeSet<Integer>()), step, at -> {
            Set<Integer> set = asSet(at.get(0));
            return set.isEmpty() || anyLast(part, set);
        }, words);
    }

    int automaton(int a, int what, int k) {
        Language asked = language(a);
        int states = asked.next.length;
        if (what == 0) {
            return states;
        }
        if (what == 1) {
            int lasts = 0;
            for (boolean last : asked.last) {
                lasts += last ? 1 : 0;
            }
            return lasts;
        }
        if (what != 2 && what != 3) {
            throw new IllegalArgumentException();
        }
        if (k < 0 || k >= (what == 2 ? 4L * states : states)) {
            throw new IndexOutOfBoundsException();
        }
        return what == 2 ? asked.next[k / 4][k % 4] : asked.last[k] ? 1 : 0;
    }

    boolean has(int a, int n, long word) {
        Language asked = language(a);
        if (n < 0 || n > 31 || word < 0 || BigInteger.valueOf(word).compareTo(BigInteger.valueOf(4).pow(n)) >= 0) {
            throw new IllegalArgumentException();
        }
        return asked.last[asked.run(spelled(n, word))];
    }

    long words(int a, int n) {
        Language asked = language(a);
        if (n < 0 || n > 1000) {
            throw new IllegalArgumentException();
        }
        BigInteger wrap = BigInteger.ONE.shiftLeft(64);
        BigInteger[] ways = new BigInteger[asked.next.length];
        java.util.Arrays.fill(ways, BigInteger.ZERO);
        ways[0] = BigInteger.ONE;
        for (int k = 0; k < n; k++) {
            BigInteger[] gone = new BigInteger[ways.length];
            java.util.Arrays.fill(gone, BigInteger.ZERO);
            for (int state = 0; state < ways.length; state++) {
                for (int to : asked.next[state]) {
                    gone[to] = gone[to].add(ways[state]).mod(wrap);
                }
            }
            ways = gone;
        }
        BigInteger sum = BigInteger.ZERO;
        for (int state = 0; state < ways.length; state++) {
            sum = asked.last[state] ? sum.add(ways[state]) : sum;
        }
        return sum.longValue();
    }

    long first(int a, int n) {
        Language asked = language(a);
        if (n < 0 || n > 31) {
            throw new IllegalArgumentException();
        }
        String word = firstFrom(asked, 0, n, new HashMap<>());
        if (word == null) {
            throw new UnsupportedOperationException();
        }
        return word.isEmpty() ? 0 : Long.parseLong(word, 4);
    }

    private static String firstFrom(Language asked, int state, int left, Map<String, String> known) {
        if (left == 0) {
            return asked.last[state] ? "" : null;
        }
        String key = state + " " + left;
        if (!known.containsKey(key)) {
            String found = null;
            for (int letter = 0; letter < 4 && found == null; letter++) {
                String rest = firstFrom(asked, asked.next[state][letter], left - 1, known);
                found = rest == null ? null : letter + rest;
            }
            known.put(key, found);
        }
        return known.get(key);
    }

    int shortest(int a) {
        Language asked = language(a);
        for (int n = 0; n < 100; n++) {
            if (asked.hasLength(n)) {
                return n;
            }
        }
        return -1;
    }

    boolean within(int a, int b) {
        Language inner = language(a);
        Language outer = language(b);
        Map<List<Integer>, Boolean> seen = new LinkedHashMap<>();
        List<List<Integer>> pairs = new ArrayList<>();
        pairs.add(List.of(0, 0));
        seen.put(pairs.get(0), true);
        for (int k = 0; k < pairs.size(); k++) {
            int in = pairs.get(k).get(0);
            int out = pairs.get(k).get(1);
            if (inner.last[in] && !outer.last[out]) {
                return false;
            }
            for (int letter = 0; letter < 4; letter++) {
                List<Integer> to = List.of(inner.next[in][letter], outer.next[out][letter]);
                if (seen.put(to, true) == null) {
                    pairs.add(to);
                }
            }
        }
        return true;
    }

    void variable(int v, int a) {
        if (v < 0 || v > 3 || a < -1 || a >= languages.size()) {
            throw new IllegalArgumentException();
        }
        variables[v] = a;
    }

    int bound(int p, int q, int r, int s, int least, int most) {
        for (int factor : new int[] {p, q, r, s}) {
            if (factor < -100 || factor > 100) {
                throw new IllegalArgumentException();
            }
        }
        if (bounds.size() == 8) {
            throw new IndexOutOfBoundsException();
        }
        bounds.add(new int[] {p, q, r, s, least, most});
        return bounds.size();
    }

    void clear() {
        bounds.clear();
        java.util.Arrays.fill(variables, -1);
        keptLengths = null;
    }

    boolean solve(int m) {
        if (m < 0 || m > 31) {
            throw new IllegalArgumentException();
        }
        List<List<Integer>> choices = new ArrayList<>();
        for (int a : variables) {
            List<Integer> lengths = new ArrayList<>();
            for (int n = 0; n <= m; n++) {
                if (a < 0 ? n == 0 : languages.get(a).hasLength(n)) {
                    lengths.add(n);
                }
            }
            choices.add(lengths);
        }
        keptLengths = firstLengths(choices);
        if (keptLengths == null) {
            return false;
        }
        keptWords = new long[4];
        for (int v = 0; v < 4; v++) {
            keptWords[v] = variables[v] < 0 ? 0 : first(variables[v], keptLengths[v]);
        }
        return true;
    }

    private int[] firstLengths(List<List<Integer>> choices) {
        for (int p : choices.get(0)) {
            for (int q : choices.get(1)) {
                for (int r : choices.get(2)) {
                    for (int s : choices.get(3)) {
                        if (allHold(p, q, r, s)) {
                            return new int[] {p, q, r, s};
                        }
                    }
                }
            }
        }
        return null;
    }

    private boolean allHold(long p, long q, long r, long s) {
        for (int[] bound : bounds) {
            long sum = bound[0] * p + bound[1] * q + bound[2] * r + bound[3] * s;
            if (sum < bound[4] || sum > bound[5]) {
                return false;
            }
        }
        return true;
    }

    int length(int v) {
        if (v < 0 || v > 3) {
            throw new IllegalArgumentException();
        }
        if (keptLengths == null) {
            throw new IllegalStateException();
        }
        return keptLengths[v];
    }

    long word(int v) {
        length(v);
        return keptWords[v];
    }

    /** Follows the way, joins states that no word tells apart, and numbers them as come to. */
    private int make(List<Object> begin, Step step, Predicate<List<Object>> isLast, Set<String> words) {
        Map<List<Object>, Integer> numbers = new HashMap<>();
        List<List<Object>> states = new ArrayList<>();
        List<int[]> next = new ArrayList<>();
        numbers.put(begin, 0);
        states.add(begin);
        for (int k = 0; k < states.size(); k++) {
            int[] row = new int[4];
            for (int letter = 0; letter < 4; letter++) {
                List<Object> to = step.go(states.get(k), letter);
                if (!numbers.containsKey(to)) {
                    numbers.put(to, states.size());
                    states.add(to);
                }
                row[letter] = numbers.get(to);
            }
            next.add(row);
            reached = states.size();
            if (reached > 800) {
                tooManyReached++;
                throw new UnsupportedOperationException();
            }
        }
        boolean[] last = new boolean[states.size()];
        for (int k = 0; k < last.length; k++) {
            last[k] = isLast.test(states.get(k));
        }
        Language made = numbered(next, last, alike(next, last));
        if (made.next.length > 64) {
            tooManyStates++;
            throw new UnsupportedOperationException();
        }
        made.words.addAll(words);
        languages.add(made);
        return languages.size() - 1;
    }

    /** Of each state the least one that no word tells from it, by marking pairs that one does. */
    private static int[] alike(List<int[]> next, boolean[] last) {
        int n = last.length;
        boolean[][] apart = new boolean[n][n];
        for (int j = 0; j < n; j++) {
            for (int k = 0; k < n; k++) {
                apart[j][k] = last[j] != last[k];
            }
        }
        boolean more = true;
        while (more) {
            more = false;
            for (int j = 0; j < n; j++) {
                for (int k = 0; k < j; k++) {
                    for (int letter = 0; letter < 4 && !apart[j][k]; letter++) {
                        if (apart[next.get(j)[letter]][next.get(k)[letter]]) {
                            apart[j][k] = true;
                            apart[k][j] = true;
                            more = true;
                        }
                    }
                }
            }
        }
        int[] least = new int[n];
        for (int j = 0; j < n; j++) {
            while (apart[j][least[j]]) {
                least[j]++;
            }
        }
        return least;
    }

    private static Language numbered(List<int[]> next, boolean[] last, int[] least) {
        Map<Integer, Integer> numbers = new HashMap<>();
        List<Integer> states = new ArrayList<>();
        List<int[]> rows = new ArrayList<>();
        numbers.put(least[0], 0);
        states.add(least[0]);
        for (int k = 0; k < states.size(); k++) {
            int[] row = new int[4];
            for (int letter = 0; letter < 4; letter++) {
                int to = least[next.get(states.get(k))[letter]];
                if (!numbers.containsKey(to)) {
                    numbers.put(to, states.size());
                    states.add(to);
                }
                row[letter] = numbers.get(to);
            }
            rows.add(row);
        }
        Language made = new Language();
        made.next = rows.toArray(new int[0][]);
        made.last = new boolean[rows.size()];
        for (int k = 0; k < made.last.length; k++) {
            made.last[k] = last[states.get(k)];
        }
        return made;
    }

    private static Step pairs(Language one, Language other) {
        return (from, letter) -> List.of(one.next[(Integer) from.get(0)][letter],
                other.next[(Integer) from.get(1)][letter]);
    }

    private static Set<Integer> asSet(Object part) {
        Set<Integer> set = new TreeSet<>();
        for (Object state : (Set<?>) part) {
            set.add((Integer) state);
        }
        return set;
    }

    private static Set<Integer> goAll(Language language, Set<Integer> from, int letter) {
        Set<Integer> gone = new TreeSet<>();
        for (int state : from) {
            gone.add(language.next[state][letter]);
        }
        return gone;
    }

    private static boolean anyLast(Language language, Set<Integer> set) {
        for (int state : set) {
            if (language.last[state]) {
                return true;
            }
        }
        return false;
    }

    private static Set<String> joined(Set<String> fronts, Set<String> backs) {
        Set<String> words = new HashSet<>();
        for (String front : fronts) {
            for (String back : backs) {
                if (front.length() + back.length() <= SHORT) {
                    words.add(front + back);
                }
            }
        }
        return words;
    }

    static List<String> shortWords() {
        List<String> words = new ArrayList<>(List.of(""));
        for (int k = 0; k < words.size() && words.get(k).length() < SHORT; k++) {
            for (int letter = 0; letter < 4; letter++) {
                words.add(words.get(k) + letter);
            }
        }
        return words;
    }

    static String spelled(int n, long word) {
        String digits = Long.toString(word, 4);
        return n == 0 ? "" : "0".repeat(n - digits.length()) + digits;
    }
}
