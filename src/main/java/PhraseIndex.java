/** Finds documents by words and by spans of words. */
public final class PhraseIndex {
    public static final int NONE = -1;
    public static final int FULL = -2;

    private static final int DOCUMENTS = 6;
    private static final int PLACES = 24;
    private static final int WORDS = 12;
    private static final int TOKENS = 12;
    private static final int PARTS = TOKENS + 1;
    private static final int ALL_PLACES = DOCUMENTS * PLACES;
    private static final int ALL_BEGINNINGS = PARTS * PLACES;

    private static final int ONE_OF = 12;
    private static final int THEN = 13;
    private static final int WITHIN = 18;
    private static final int BOTH = 20;
    private static final int EITHER = 21;
    private static final int NOT = 22;
    private static final int HAS = 23;

    private final int[] words = new int[ALL_PLACES];
    private final int[] lengths = new int[DOCUMENTS];

    private final int[] tokens = new int[TOKENS];
    private int tokenCount = 0;

    // A HAS is followed by its whole span expression before any other condition,
    // so two counts say what may come next; no stack is needed.
    private int spansDue = 0;
    private int conditionsDue = 1;

    // What evaluate() finds for the part of the query that starts at each token:
    // where the next part starts, and either its truth or its spans. A bit e at
    // [token * PLACES + b] is the span (b, e), so a pair can't be counted twice.
    // There is one part more than tokens: a part that starts behind the last token
    // is an index too, so that no index rests on the query being complete.
    private final int[] nextPart = new int[PARTS];
    private final boolean[] truths = new boolean[PARTS];
    private final int[] endBits = new int[ALL_BEGINNINGS];

    public PhraseIndex() {
    }

    public int write(int d, int w) {
        if (!isDocument(d) || !isWord(w)) {
            return NONE;
        }
        int place = lengths[d];
        if (place >= PLACES) {
            return FULL;
        }
        words[d * PLACES + place] = w;
        lengths[d] = place + 1;
        return place;
    }

    public boolean change(int d, int p, int w) {
        if (!isDocument(d) || !isWord(w)) {
            return false;
        }
        if (p < 0 || p >= lengths[d]) {
            return false;
        }
        words[d * PLACES + p] = w;
        return true;
    }

    public boolean erase(int d) {
        if (!isDocument(d)) {
            return false;
        }
        lengths[d] = 0;
        return true;
    }

    public int length(int d) {
        if (!isDocument(d)) {
            return NONE;
        }
        return lengths[d];
    }

    public int ask(int token) {
        if (tokenCount >= TOKENS || complete()) {
            return FULL;
        }
        if (!mayComeNext(token)) {
            return NONE;
        }
        tokens[tokenCount] = token;
        tokenCount++;
        countDue(token, 1);
        return tokenCount;
    }

    public int unask() {
        if (tokenCount <= 0) {
            return NONE;
        }
        tokenCount--;
        int token = tokens[tokenCount];
        countDue(token, -1);
        return token;
    }

    public boolean complete() {
        return spansDue == 0 && conditionsDue == 0;
    }

    public boolean holds(int d) {
        if (!isDocument(d) || !complete()) {
            return false;
        }
        evaluate(d);
        return truths[0];
    }

    public int matching() {
        int documents = 0;
        for (int d = 0; d < DOCUMENTS; d++) {
            if (holds(d)) {
                documents |= 1 << d;
            }
        }
        return documents;
    }

    public int spans(int k, int d) {
        int expression = evaluatedExpression(k, d);
        if (expression == NONE) {
            return NONE;
        }
        int count = 0;
        for (int b = 0; b < PLACES; b++) {
            count += bitCount(endBits[expression * PLACES + b]);
        }
        return count;
    }

    public int begins(int k, int d, int b) {
        int expression = evaluatedExpression(k, d);
        if (expression == NONE) {
            return NONE;
        }
        for (int place = b < 0 ? 0 : b; place < PLACES; place++) {
            if (endBits[expression * PLACES + place] != 0) {
                return place;
            }
        }
        return NONE;
    }

    public int ends(int k, int d, int b) {
        if (b < 0 || b >= PLACES) {
            return NONE;
        }
        int expression = evaluatedExpression(k, d);
        if (expression == NONE) {
            return NONE;
        }
        return lowestBit(endBits[expression * PLACES + b]);
    }

    public int having(int w) {
        int documents = 0;
        for (int d = 0; d < DOCUMENTS; d++) {
            if (occurrences(d, w) > 0) {
                documents |= 1 << d;
            }
        }
        return documents;
    }

    public int frequency(int w) {
        int count = 0;
        for (int d = 0; d < DOCUMENTS; d++) {
            count += occurrences(d, w);
        }
        return count;
    }

    public int hasTokens() {
        int count = 0;
        for (int i = 0; i < tokenCount; i++) {
            if (tokens[i] == HAS) {
                count++;
            }
        }
        return count;
    }

    private static boolean isDocument(int d) {
        return d >= 0 && d < DOCUMENTS;
    }

    private static boolean isWord(int w) {
        return w >= 0 && w < WORDS;
    }

    private static boolean isSpanToken(int token) {
        return token >= 0 && token <= WITHIN;
    }

    private static boolean isConditionToken(int token) {
        return token >= BOTH && token <= HAS;
    }

    /** Only for a query that is not complete. */
    private boolean mayComeNext(int token) {
        return spansDue > 0 ? isSpanToken(token) : isConditionToken(token);
    }

    /** Counts what a token fills and what it asks for; step is 1 when it comes, -1 when it goes. */
    private void countDue(int token, int step) {
        if (isWord(token)) {
            spansDue -= step;
        } else if (isSpanToken(token)) {
            spansDue += step;
        } else if (token == HAS) {
            conditionsDue -= step;
            spansDue += step;
        } else if (token != NOT) {
            conditionsDue += step;
        }
    }

    /** The number of places of document d that have w; no place has what is not a word. */
    private int occurrences(int d, int w) {
        int count = 0;
        for (int p = 0; p < lengths[d]; p++) {
            if (words[d * PLACES + p] == w) {
                count++;
            }
        }
        return count;
    }

    /**
     * Evaluates the query for document d and answers the token at which the span
     * expression of the k-th HAS starts; NONE when spans has to answer NONE.
     */
    private int evaluatedExpression(int k, int d) {
        if (!isDocument(d) || !complete()) {
            return NONE;
        }
        int seen = 0;
        for (int i = 0; i < tokenCount; i++) {
            if (tokens[i] == HAS) {
                if (seen == k) {
                    evaluate(d);
                    return i + 1;
                }
                seen++;
            }
        }
        return NONE;
    }

    /**
     * Only for a complete query: there every operand stands behind its operator, so
     * going from the last token to the first finds the operands evaluated already.
     */
    private void evaluate(int d) {
        for (int i = tokenCount - 1; i >= 0; i--) {
            int token = tokens[i];
            if (isWord(token)) {
                findWord(i, d);
            } else if (isSpanToken(token)) {
                findCombined(i);
            } else {
                decide(i);
            }
        }
    }

    private void findWord(int i, int d) {
        for (int p = 0; p < PLACES; p++) {
            boolean found = p < lengths[d] && words[d * PLACES + p] == tokens[i];
            endBits[i * PLACES + p] = found ? 1 << p : 0;
        }
        nextPart[i] = i + 1;
    }

    private void findCombined(int i) {
        int token = tokens[i];
        int s = i + 1;
        int t = nextPart[s];
        if (token == ONE_OF) {
            findEither(i, s, t);
        } else if (token == WITHIN) {
            findWithin(i, s, t);
        } else {
            findThen(i, s, t, token - THEN);
        }
        nextPart[i] = nextPart[t];
    }

    private void findEither(int i, int s, int t) {
        for (int b = 0; b < PLACES; b++) {
            endBits[i * PLACES + b] = endBits[s * PLACES + b] | endBits[t * PLACES + b];
        }
    }

    private void findThen(int i, int s, int t, int distance) {
        for (int b = 0; b < PLACES; b++) {
            int joined = 0;
            for (int e = 0; e < PLACES - distance; e++) {
                if ((endBits[s * PLACES + b] >> e & 1) == 1) {
                    joined |= endBits[t * PLACES + e + distance];
                }
            }
            endBits[i * PLACES + b] = joined;
        }
    }

    private void findWithin(int i, int s, int t) {
        // Every span of t that begins at or before b counts, so what they reach is kept
        // from one b to the next.
        int reached = 0;
        for (int b = 0; b < PLACES; b++) {
            reached |= upToHighestBit(endBits[t * PLACES + b]);
            endBits[i * PLACES + b] = endBits[s * PLACES + b] & reached;
        }
    }

    private void decide(int i) {
        int token = tokens[i];
        int first = i + 1;
        int second = nextPart[first];
        if (token == HAS) {
            truths[i] = hasSpan(first);
            nextPart[i] = second;
        } else if (token == NOT) {
            truths[i] = !truths[first];
            nextPart[i] = second;
        } else if (token == EITHER) {
            truths[i] = truths[first] || truths[second];
            nextPart[i] = nextPart[second];
        } else {
            truths[i] = truths[first] && truths[second];
            nextPart[i] = nextPart[second];
        }
    }

    private boolean hasSpan(int expression) {
        for (int b = 0; b < PLACES; b++) {
            if (endBits[expression * PLACES + b] != 0) {
                return true;
            }
        }
        return false;
    }

    private static int bitCount(int bits) {
        int count = 0;
        for (int e = 0; e < PLACES; e++) {
            count += bits >> e & 1;
        }
        return count;
    }

    private static int lowestBit(int bits) {
        for (int e = 0; e < PLACES; e++) {
            if ((bits >> e & 1) == 1) {
                return e;
            }
        }
        return NONE;
    }

    /** All bits from 0 to the highest one of bits; 0 when there is none. */
    private static int upToHighestBit(int bits) {
        int filled = 0;
        for (int e = 0; e < PLACES; e++) {
            if (bits >> e != 0) {
                filled |= 1 << e;
            }
        }
        return filled;
    }
}
