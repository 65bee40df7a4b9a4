import java.util.Arrays;

/**
 * Networks of genes that switch one another on and off by rules: read from a text, all their states,
 * what they come to when all genes follow their rules at once or one at a time, and how many states
 * lead there.
 */
public final class RuleNetwork {
    public static final int NONE = -1;

    private static final int MOST_CHARACTERS = 240;
    private static final int MOST_GENES = 7;
    private static final int MOST_STATES = 128;
    private static final int MOST_OUTSIDE = 12;
    private static final int LETTERS = 26;
    private static final int BYTES = 8;
    private static final char FIRST_CHARACTER = 32;
    private static final char LAST_CHARACTER = 126;
    /** What a gene is fixed with that is not fixed. */
    private static final int FREE = 2;
    /** What a cube gives a gene that may have any value. */
    private static final int ANY = 2;

    private final Script script;
    private final Rules rules;
    private final Analysis analysis;
    private final NodeCounter counter;
    private final CubeMaker maker;

    public RuleNetwork() {
        script = new Script();
        rules = new Rules();
        analysis = new Analysis();
        counter = new NodeCounter();
        maker = new CubeMaker();
    }

    public boolean write(long characters) {
        return script.append(characters);
    }

    public void wipe() {
        script.clear();
    }

    public int load() {
        int fault = script.findFault();
        if (fault != 0) {
            return -fault;
        }
        rules.take(script);
        analysis.forget();
        return rules.count;
    }

    public int genes() {
        return rules.count;
    }

    public int gene(char name) {
        return indexOf(name, rules.names, rules.count);
    }

    public boolean fix(int g, int to) {
        if (!rules.hasGene(g) || to < 0 || to > FREE) {
            return false;
        }
        rules.fixed[g] = to;
        analysis.forget();
        return true;
    }

    public int value(int g, int state) {
        return rules.hasGene(g) && rules.hasState(state) ? rules.valueOf(g, state) : NONE;
    }

    public int next(int state) {
        return rules.hasState(state) ? rules.stepTogether(state) : NONE;
    }

    public int spread(int g) {
        return rules.hasGene(g) ? counter.countNodes(rules, g) : NONE;
    }

    public int analyse(boolean alone) {
        if (rules.count == 0) {
            return NONE;
        }
        analysis.run(rules, alone);
        return analysis.count;
    }

    public int size(int k) {
        return analysis.hasAttractor(k) ? analysis.countStates(k) : 0;
    }

    public int least(int k) {
        return analysis.hasAttractor(k) ? analysis.leasts[k] : NONE;
    }

    public int attractor(int state) {
        return analysis.hasState(state) ? analysis.homes[state] : NONE;
    }

    public int basin(int k) {
        return analysis.hasAttractor(k) ? analysis.countLeading(k) : 0;
    }

    public int only(int k) {
        return analysis.hasAttractor(k) ? analysis.countLeadingOnly(k) : 0;
    }

    public int cubes(int k) {
        makeCubes(k);
        return maker.count;
    }

    public int cube(int k, int i) {
        makeCubes(k);
        return i >= 0 && i < maker.count ? maker.made[i] : NONE;
    }

    private void makeCubes(int k) {
        if (analysis.hasAttractor(k)) {
            int least = analysis.leasts[k];
            maker.make(analysis.genes, analysis.low[least], analysis.high[least]);
        } else {
            maker.clear();
        }
    }

    /** Where a name stands among the first so many names, NONE if it does not. */
    private static int indexOf(char name, char[] names, int count) {
        for (int g = 0; g < count; g++) {
            if (names[g] == name) {
                return g;
            }
        }
        return NONE;
    }

    /** The bit of a state in a set of states 0 .. 63 and one of states 64 .. 127. */
    private static int bitOf(long low, long high, int state) {
        return (int) ((state < 64 ? low : high) >>> (state & 63) & 1L);
    }

    /**
     * The text, and what was last read from it. A rule's sum is kept as code in which an operator
     * stands behind what it works on; every character gives at most one place of code.
     */
    private static final class Script {
        private static final char END = 0;

        private final char[] characters = new char[MOST_CHARACTERS];
        private int length;
        private int at;

        final char[] names = new char[MOST_GENES];
        int count;
        final char[] code = new char[MOST_CHARACTERS];
        private int codeLength;
        /** For each rule, the end of its code: the next rule's begins there. */
        final int[] ends = new int[MOST_GENES];
        /** For each letter, the place where a sum first names it; 0 if none does. */
        private final int[] firstUses = new int[LETTERS];

        void clear() {
            length = 0;
        }

        boolean append(long bytes) {
            int added = countCharacters(bytes);
            if (added == NONE || length + added > MOST_CHARACTERS) {
                return false;
            }
            for (int i = 0; i < BYTES; i++) {
                char c = byteAt(bytes, i);
                if (c != 0) {
                    characters[length] = c;
                    length++;
                }
            }
            return true;
        }

        /** How many characters the bytes hold, NONE if one of them can't stand in a text. */
        private static int countCharacters(long bytes) {
            int found = 0;
            for (int i = 0; i < BYTES; i++) {
                char c = byteAt(bytes, i);
                if (c != 0) {
                    if (c < FIRST_CHARACTER || c > LAST_CHARACTER) {
                        return NONE;
                    }
                    found++;
                }
            }
            return found;
        }

        private static char byteAt(long bytes, int i) {
            return (char) (bytes >>> (8 * i) & 255);
        }

        /** Reads the text: the place of its fault, 0 if there is none. */
        int findFault() {
            at = 0;
            count = 0;
            codeLength = 0;
            Arrays.fill(firstUses, 0);
            return readRules() ? findStranger() : at + 1;
        }

        /** The first place in a sum of a name that is no gene, 0 if there is none. */
        private int findStranger() {
            int first = 0;
            for (int i = 0; i < LETTERS; i++) {
                int place = firstUses[i];
                boolean stranger = place != 0 && indexOf((char) ('a' + i), names, count) == NONE;
                if (stranger && (first == 0 || place < first)) {
                    first = place;
                }
            }
            return first;
        }

        // Each of the methods that read answers false if there is a fault, and then leaves at there.

        private boolean readRules() {
            if (!readRule()) {
                return false;
            }
            for (int i = 0; i < MOST_CHARACTERS && ahead() == ';'; i++) {
                at++;
                if (!readRule()) {
                    return false;
                }
            }
            return ahead() == END;
        }

        private boolean readRule() {
            char name = ahead();
            if (!isName(name) || count >= MOST_GENES || indexOf(name, names, count) != NONE) {
                return false;
            }
            at++;
            if (!readMark(',') || !readSum(0)) {
                return false;
            }
            names[count] = name;
            ends[count] = codeLength;
            count++;
            return true;
        }

        private boolean readSum(int outside) {
            if (!readProduct(outside)) {
                return false;
            }
            for (int i = 0; i < MOST_CHARACTERS && ahead() == '|'; i++) {
                at++;
                if (!readProduct(outside)) {
                    return false;
                }
                emit('|');
            }
            return true;
        }

        private boolean readProduct(int outside) {
            if (!readFactor(outside)) {
                return false;
            }
            for (int i = 0; i < MOST_CHARACTERS && ahead() == '&'; i++) {
                at++;
                if (!readFactor(outside)) {
                    return false;
                }
                emit('&');
            }
            return true;
        }

        /** Reads a factor that stands inside of so many ! and (. */
        private boolean readFactor(int outside) {
            char c = ahead();
            if (c != '!' && c != '(') {
                return readLeaf(c);
            }
            if (outside >= MOST_OUTSIDE) {
                return false;
            }
            at++;
            if (c == '(') {
                return readSum(outside + 1) && readMark(')');
            }
            if (!readFactor(outside + 1)) {
                return false;
            }
            emit('!');
            return true;
        }

        private boolean readLeaf(char c) {
            if (isName(c)) {
                if (firstUses[c - 'a'] == 0) {
                    firstUses[c - 'a'] = at + 1;
                }
            } else if (c != '0' && c != '1') {
                return false;
            }
            at++;
            emit(c);
            return true;
        }

        private boolean readMark(char mark) {
            if (ahead() != mark) {
                return false;
            }
            at++;
            return true;
        }

        /** Goes on to what is no blank, and answers it; END if there is nothing more. */
        private char ahead() {
            while (at < length && characters[at] == ' ') {
                at++;
            }
            return at < length ? characters[at] : END;
        }

        private void emit(char c) {
            if (codeLength < MOST_CHARACTERS) {
                code[codeLength] = c;
                codeLength++;
            }
        }

        private static boolean isName(char c) {
            return c >= 'a' && c <= 'z';
        }
    }

    /** The genes and their values in all states. */
    private static final class Rules {
        /** For the genes 0 .. 5, in which of 64 states they have 1, as bits. */
        private static final long[] PATTERNS = {
            0xAAAAAAAAAAAAAAAAL, 0xCCCCCCCCCCCCCCCCL, 0xF0F0F0F0F0F0F0F0L,
            0xFF00FF00FF00FF00L, 0xFFFF0000FFFF0000L, 0xFFFFFFFF00000000L
        };

        int count;
        final char[] names = new char[MOST_GENES];
        final int[] fixed = new int[MOST_GENES];
        /** The value of each gene's sum in the states 0 .. 63, as bits. */
        private final long[] low = new long[MOST_GENES];
        /** The same in the states 64 .. 127: there only gene 6, if there is one, is different. */
        private final long[] high = new long[MOST_GENES];
        private final long[] stack = new long[MOST_CHARACTERS];

        void take(Script script) {
            count = script.count;
            int from = 0;
            for (int g = 0; g < count; g++) {
                names[g] = script.names[g];
                fixed[g] = FREE;
                low[g] = work(script, from, script.ends[g], 0L);
                high[g] = work(script, from, script.ends[g], -1L);
                from = script.ends[g];
            }
        }

        /** Works a piece of code in 64 states at once, in which gene 6 is as the last bits say. */
        private long work(Script script, int from, int to, long last) {
            int depth = 0;
            for (int i = from; i < to; i++) {
                char c = script.code[i];
                if (c == '!' && depth >= 1) {
                    stack[depth - 1] = ~stack[depth - 1];
                } else if (c == '&' && depth >= 2) {
                    depth--;
                    stack[depth - 1] &= stack[depth];
                } else if (c == '|' && depth >= 2) {
                    depth--;
                    stack[depth - 1] |= stack[depth];
                } else if (depth < MOST_CHARACTERS) {
                    stack[depth] = leafBits(script, c, last);
                    depth++;
                }
            }
            return stack[0];
        }

        private static long leafBits(Script script, char c, long last) {
            if (c == '0') {
                return 0L;
            }
            if (c == '1') {
                return -1L;
            }
            int g = indexOf(c, script.names, script.count);
            return g >= 0 && g < PATTERNS.length ? PATTERNS[g] : last;
        }

        boolean hasGene(int g) {
            return g >= 0 && g < count;
        }

        boolean hasState(int state) {
            return count > 0 && state >= 0 && state < 1 << count;
        }

        int valueOf(int g, int state) {
            if (fixed[g] != FREE) {
                return fixed[g];
            }
            return bitOf(low[g], high[g], state);
        }

        int stepTogether(int state) {
            int to = 0;
            for (int g = 0; g < count; g++) {
                to |= valueOf(g, state) << g;
            }
            return to;
        }
    }

    /** The latest analysis, if there is one: where each state leads, and the attractors. */
    private static final class Analysis {
        int genes;
        int count;
        /** For each state, which of the states 0 .. 63 it leads to, as bits. */
        final long[] low = new long[MOST_STATES];
        /** The same for the states 64 .. 127. */
        final long[] high = new long[MOST_STATES];
        final int[] homes = new int[MOST_STATES];
        final int[] leasts = new int[MOST_STATES];
        /** How many states are analysed, 0 if nothing is. */
        private int states;
        /** The least states of all attractors, as bits. */
        private long lowLeasts;
        private long highLeasts;

        void forget() {
            states = 0;
            count = 0;
        }

        void run(Rules rules, boolean alone) {
            genes = rules.count;
            states = 1 << genes;
            for (int s = 0; s < states; s++) {
                markSteps(s, rules.stepTogether(s), alone);
            }
            joinSteps();
            findAttractors();
        }

        private void markSteps(int s, int together, boolean alone) {
            low[s] = 0L;
            high[s] = 0L;
            markLeading(s, s);
            if (!alone) {
                markLeading(s, together);
                return;
            }
            for (int g = 0; g < genes; g++) {
                int bit = 1 << g;
                markLeading(s, s & ~bit | together & bit);
            }
        }

        private void markLeading(int s, int to) {
            if (to < 64) {
                low[s] |= 1L << to;
            } else {
                high[s] |= 1L << (to & 63);
            }
        }

        /** From single steps to any number of them: Warshall's way, a state between after another. */
        private void joinSteps() {
            for (int between = 0; between < states; between++) {
                for (int s = 0; s < states; s++) {
                    if (leads(s, between)) {
                        low[s] |= low[between];
                        high[s] |= high[between];
                    }
                }
            }
        }

        private void findAttractors() {
            count = 0;
            lowLeasts = 0L;
            highLeasts = 0L;
            Arrays.fill(homes, NONE);
            for (int s = 0; s < states; s++) {
                if (homes[s] == NONE && isLedBackTo(s)) {
                    addAttractor(s);
                }
            }
        }

        /** Whether all that a state leads to leads to it: then all that is its attractor. */
        private boolean isLedBackTo(int s) {
            for (int t = 0; t < states; t++) {
                if (leads(s, t) && !leads(t, s)) {
                    return false;
                }
            }
            return true;
        }

        private void addAttractor(int least) {
            for (int t = 0; t < states; t++) {
                if (leads(least, t)) {
                    homes[t] = count;
                }
            }
            leasts[count] = least;
            count++;
            if (least < 64) {
                lowLeasts |= 1L << least;
            } else {
                highLeasts |= 1L << (least & 63);
            }
        }

        private boolean leads(int s, int to) {
            return bitOf(low[s], high[s], to) == 1;
        }

        boolean hasAttractor(int k) {
            return k >= 0 && k < count;
        }

        boolean hasState(int state) {
            return state >= 0 && state < states;
        }

        int countStates(int k) {
            int s = leasts[k];
            return Long.bitCount(low[s]) + Long.bitCount(high[s]);
        }

        int countLeading(int k) {
            int found = 0;
            for (int s = 0; s < states; s++) {
                if (leads(s, leasts[k])) {
                    found++;
                }
            }
            return found;
        }

        int countLeadingOnly(int k) {
            int found = 0;
            for (int s = 0; s < states; s++) {
                if (leads(s, leasts[k]) && countAttractorsFrom(s) == 1) {
                    found++;
                }
            }
            return found;
        }

        /** A state that leads to one state of an attractor leads to its least one too. */
        private int countAttractorsFrom(int s) {
            return Long.bitCount(low[s] & lowLeasts) + Long.bitCount(high[s] & highLeasts);
        }
    }

    /**
     * Counts a rule's spread, from the last gene to the first. Each function met is a number: 0 and 1
     * are the constant ones, and one that its first gene makes a difference for is a node, with the
     * numbers of what it is when that gene has 0 and 1. So equal functions have equal numbers.
     */
    private static final class NodeCounter {
        private final int[] numbers = new int[MOST_STATES];
        private final int[] zeros = new int[MOST_STATES];
        private final int[] ones = new int[MOST_STATES];
        private int nodes;

        int countNodes(Rules rules, int g) {
            nodes = 0;
            for (int s = 0; s < 1 << rules.count; s++) {
                numbers[s] = rules.valueOf(g, s);
            }
            for (int k = rules.count - 1; k >= 0; k--) {
                joinAt(k);
            }
            return nodes;
        }

        /** From the functions of the genes behind gene k to those of the genes from k on. */
        private void joinAt(int k) {
            int first = nodes;
            int half = 1 << k;
            for (int s = 0; s < half; s++) {
                numbers[s] = numberOf(numbers[s], numbers[s + half], first);
            }
        }

        private int numberOf(int zero, int one, int first) {
            if (zero == one) {
                return zero;
            }
            for (int i = first; i < nodes; i++) {
                if (zeros[i] == zero && ones[i] == one) {
                    return i + 2;
                }
            }
            zeros[nodes] = zero;
            ones[nodes] = one;
            nodes++;
            return nodes + 1;
        }
    }

    /** Makes the cubes of a set of states. */
    private static final class CubeMaker {
        final int[] made = new int[MOST_STATES];
        int count;
        private int genes;
        private long low;
        private long high;

        void clear() {
            count = 0;
        }

        void make(int geneCount, long lowStates, long highStates) {
            genes = geneCount;
            low = lowStates;
            high = highStates;
            count = 0;
            split(0, 0, 0);
        }

        /** Goes on with gene k; the genes before it are as in the state base and in the cube. */
        private void split(int k, int base, int cubeSoFar) {
            int inside = countInside(k, base);
            if (inside == 1 << (genes - k)) {
                made[count] = cubeSoFar + anyFrom(k);
                count++;
            } else if (inside > 0 && k < genes) {
                if (makesDifference(k, base)) {
                    split(k + 1, base, cubeSoFar);
                    split(k + 1, base + (1 << k), cubeSoFar + given(k, 1));
                } else {
                    split(k + 1, base, cubeSoFar + given(k, ANY));
                }
            }
        }

        private int countInside(int k, int base) {
            int inside = 0;
            for (int s = base; s < 1 << genes; s += 1 << k) {
                inside += bitOf(low, high, s);
            }
            return inside;
        }

        private boolean makesDifference(int k, int base) {
            int bit = 1 << k;
            for (int s = base; s < 1 << genes; s += 2 * bit) {
                if (bitOf(low, high, s) != bitOf(low, high, s + bit)) {
                    return true;
                }
            }
            return false;
        }

        private int anyFrom(int k) {
            int sum = 0;
            for (int g = k; g < genes; g++) {
                sum += given(g, ANY);
            }
            return sum;
        }

        private static int given(int g, int what) {
            return what << (2 * g);
        }
    }
}
