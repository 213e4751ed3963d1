import java.util.ArrayList;
import java.util.List;
import java.util.TreeSet;

/**
 * Runs of calls, the same each time, against a model that follows the document's words
 * directly: lists, sets of pairs and recursion. First long runs of mixed calls, then every
 * form that a complete query can have, with all that can be read of it.
 */
public final class PhraseIndexModelTest {
    private static final int RUNS = 4000;
    // One step makes at most 12 calls, so no run passes the 512 that the document allows.
    private static final int LAST_STEP_BEFORE = 500;
    private static final int NONE = -1;
    private static final int FULL = -2;
    private static final int WORD = 0;
    private static final int PAIR_OF_SPANS = 12;
    private static final int PAIR_OF_CONDITIONS = 20;
    private static final int NOT = 22;
    private static final int HAS = 23;
    private static final int TIMES_EACH_FORM = 4;

    private static final int[] form = new int[12];
    private static int forms = 0;
    private static long seed = 1;
    private static int wrong = 0;

    private final PhraseIndex x = new PhraseIndex();
    private final List<List<Integer>> documents = new ArrayList<>();
    private final List<Integer> query = new ArrayList<>();
    private final List<String> calls = new ArrayList<>();
    private final int wordRange;
    private int position;

    private PhraseIndexModelTest(int wordRange) {
        this.wordRange = wordRange;
        for (int d = 0; d < 6; d++) {
            documents.add(new ArrayList<>());
        }
    }

    public static void main(String[] args) {
        int completeRuns = 0;
        for (int run = 0; run < RUNS && wrong == 0; run++) {
            PhraseIndexModelTest test = new PhraseIndexModelTest(1 + run % 12);
            while (test.calls.size() < LAST_STEP_BEFORE && wrong == 0) {
                test.step();
            }
            completeRuns += test.isComplete() ? 1 : 0;
        }
        if (wrong == 0 && completeRuns < RUNS / 10) {
            wrong++;
            System.out.println("the runs made too few complete queries: " + completeRuns);
        }
        visitForms(0, 0, 1);
        System.out.println((wrong == 0 ? "the model agrees" : "the model does not agree")
            + ", " + forms + " forms of a complete query");
        if (wrong != 0) {
            System.exit(1);
        }
    }

    /** Each form of a complete query; a token of a form stands for all of its kind. */
    private static void visitForms(int count, int spansDue, int conditionsDue) {
        if (wrong != 0) {
            return;
        }
        if (spansDue == 0 && conditionsDue == 0) {
            forms++;
            for (int i = 0; i < TIMES_EACH_FORM && wrong == 0; i++) {
                new PhraseIndexModelTest(1 + i).readWhole(count);
            }
        } else if (count < form.length && spansDue > 0) {
            visitWith(WORD, count, spansDue - 1, conditionsDue);
            visitWith(PAIR_OF_SPANS, count, spansDue + 1, conditionsDue);
        } else if (count < form.length) {
            visitWith(HAS, count, 1, conditionsDue - 1);
            visitWith(NOT, count, 0, conditionsDue);
            visitWith(PAIR_OF_CONDITIONS, count, 0, conditionsDue + 1);
        }
    }

    private static void visitWith(int token, int count, int spansDue, int conditionsDue) {
        form[count] = token;
        visitForms(count + 1, spansDue, conditionsDue);
    }

    private int ofKind(int token) {
        return switch (token) {
            case WORD -> pick(wordRange);
            case PAIR_OF_SPANS -> 12 + pick(7);
            case PAIR_OF_CONDITIONS -> 20 + pick(2);
            default -> token;
        };
    }

    /** At most 144 + 12 + 2 + 24 + 4 * 48 calls, so within the 512. */
    private void readWhole(int count) {
        for (int d = 0; d < 6; d++) {
            int length = pick(25);
            for (int i = 0; i < length; i++) {
                int w = pick(wordRange);
                due("write(" + d + ", " + w + ")", write(d, w), x.write(d, w));
            }
        }
        for (int i = 0; i < count; i++) {
            int token = ofKind(form[i]);
            due("ask(" + token + ")", ask(token), x.ask(token));
        }
        due("complete()", 1, x.complete() ? 1 : 0);
        due("matching()", matching(), x.matching());
        int hasTokens = (int) query.stream().filter(t -> t == HAS).count();
        int chosen = pick(6);
        for (int k = 0; k < hasTokens; k++) {
            for (int d = 0; d < 6; d++) {
                due("spans(" + k + ", " + d + ")", spans(k, d), x.spans(k, d));
            }
            for (int b = 0; b < 24; b++) {
                String last = "(" + k + ", " + chosen + ", " + b + ")";
                due("begins" + last, begins(k, chosen, b), x.begins(k, chosen, b));
                due("ends" + last, ends(k, chosen, b), x.ends(k, chosen, b));
            }
        }
    }

    /** A fixed sequence in place of a random source, so that every run is the same. */
    private static int pick(int bound) {
        seed = seed * 6364136223846793005L + 1442695040888963407L;
        return (int) ((seed >>> 33) % bound);
    }

    private static int around(int bound) {
        return pick(20) == 0 ? pick(bound + 6) - 3 : pick(bound);
    }

    private void due(String call, long want, long got) {
        calls.add(call + " = " + got);
        if (got != want) {
            wrong++;
            System.out.println(calls);
            System.out.println(call + " answered " + got + ", due is " + want);
        }
    }

    private void step() {
        int d = around(6);
        int k = pick(3) == 0 ? around(3) : 0;
        int b = around(24);
        int w = pick(30) == 0 ? around(12) : pick(wordRange);
        switch (pick(20)) {
            case 0, 1, 2, 3 -> due("write(" + d + ", " + w + ")", write(d, w), x.write(d, w));
            case 4 -> due("change(" + d + ", " + b + ", " + w + ")", change(d, b, w), x.change(d, b, w) ? 1 : 0);
            case 5 -> {
                if (pick(8) == 0) {
                    due("erase(" + d + ")", erase(d), x.erase(d) ? 1 : 0);
                }
            }
            case 6 -> due("length(" + d + ")", isDocument(d) ? documents.get(d).size() : NONE, x.length(d));
            case 7, 8, 9, 10 -> askSome();
            case 11 -> unaskSome();
            case 12 -> due("complete()", isComplete() ? 1 : 0, x.complete() ? 1 : 0);
            case 13 -> due("holds(" + d + ")", holds(d) ? 1 : 0, x.holds(d) ? 1 : 0);
            case 14 -> due("matching()", matching(), x.matching());
            case 15 -> due("spans(" + k + ", " + d + ")", spans(k, d), x.spans(k, d));
            case 16 -> due("begins(" + k + ", " + d + ", " + b + ")", begins(k, d, b), x.begins(k, d, b));
            case 17 -> due("ends(" + k + ", " + d + ", " + b + ")", ends(k, d, b), x.ends(k, d, b));
            case 18 -> {
                due("having(" + w + ")", having(w), x.having(w));
                due("frequency(" + w + ")", frequency(w), x.frequency(w));
            }
            default -> due("hasTokens()", query.stream().filter(t -> t == HAS).count(), x.hasTokens());
        }
    }

    private void askSome() {
        int token;
        int kind = pick(10);
        if (kind == 0) {
            token = pick(28) - 2;
        } else if (kind < 5) {
            token = pick(wordRange);
        } else if (kind < 7) {
            token = 12 + pick(7);
        } else {
            token = pick(2) == 0 ? 23 : 20 + pick(4);
        }
        due("ask(" + token + ")", ask(token), x.ask(token));
    }

    private void unaskSome() {
        int times = pick(4) == 0 ? pick(13) : 0;
        for (int i = 0; i < times; i++) {
            int want = query.isEmpty() ? NONE : query.remove(query.size() - 1);
            due("unask()", want, x.unask());
        }
    }

    private static boolean isDocument(int d) {
        return d >= 0 && d <= 5;
    }

    private int write(int d, int w) {
        if (!isDocument(d) || w < 0 || w > 11) {
            return NONE;
        }
        if (documents.get(d).size() == 24) {
            return FULL;
        }
        documents.get(d).add(w);
        return documents.get(d).size() - 1;
    }

    private int change(int d, int p, int w) {
        if (!isDocument(d) || p < 0 || p >= documents.get(d).size() || w < 0 || w > 11) {
            return 0;
        }
        documents.get(d).set(p, w);
        return 1;
    }

    private int erase(int d) {
        if (!isDocument(d)) {
            return 0;
        }
        documents.get(d).clear();
        return 1;
    }

    private int ask(int token) {
        if (query.size() == 12 || isComplete()) {
            return FULL;
        }
        query.add(token);
        if (!isBeginOfCondition()) {
            query.remove(query.size() - 1);
            return NONE;
        }
        return query.size();
    }

    private boolean isComplete() {
        position = 0;
        return readCondition() && position == query.size();
    }

    /** Whether the tokens are a whole condition or can become one by more tokens. */
    private boolean isBeginOfCondition() {
        position = 0;
        boolean whole = readCondition();
        return whole ? position == query.size() : position > query.size();
    }

    /** Reads one condition; on a lack of tokens, position ends behind the query. */
    private boolean readCondition() {
        int token = position < query.size() ? query.get(position) : NONE;
        if (position >= query.size()) {
            position = query.size() + 1;
            return false;
        }
        if (token < 20 || token > 23) {
            return false;
        }
        position++;
        if (token == 23) {
            return readSpanExpression();
        }
        return readCondition() && (token == 22 || readCondition());
    }

    private boolean readSpanExpression() {
        int token = position < query.size() ? query.get(position) : NONE;
        if (position >= query.size()) {
            position = query.size() + 1;
            return false;
        }
        if (token < 0 || token > 18) {
            return false;
        }
        position++;
        return token < 12 || readSpanExpression() && readSpanExpression();
    }

    private boolean holds(int d) {
        if (!isDocument(d) || !isComplete()) {
            return false;
        }
        position = 0;
        return condition(documents.get(d));
    }

    private boolean condition(List<Integer> document) {
        int token = query.get(position++);
        if (token == 23) {
            return !pairs(document).isEmpty();
        }
        boolean c = condition(document);
        if (token == 22) {
            return !c;
        }
        boolean other = condition(document);
        return token == 20 ? c && other : c || other;
    }

    /** The spans of the expression at position, each as 100 * b + e. */
    private TreeSet<Integer> pairs(List<Integer> document) {
        int token = query.get(position++);
        TreeSet<Integer> found = new TreeSet<>();
        if (token < 12) {
            for (int p = 0; p < document.size(); p++) {
                if (document.get(p) == token) {
                    found.add(100 * p + p);
                }
            }
            return found;
        }
        TreeSet<Integer> s = pairs(document);
        TreeSet<Integer> t = pairs(document);
        if (token == 12) {
            found.addAll(s);
            found.addAll(t);
            return found;
        }
        for (int first : s) {
            for (int second : t) {
                int b = first / 100;
                int e = first % 100;
                int c = second / 100;
                int f = second % 100;
                if (token == 18 && c <= b && e <= f) {
                    found.add(first);
                } else if (token != 18 && c == e + (token - 13)) {
                    found.add(100 * b + f);
                }
            }
        }
        return found;
    }

    /** The spans of the k-th HAS in document d; null where spans answers NONE. */
    private TreeSet<Integer> pairsOfHas(int k, int d) {
        if (!isDocument(d) || !isComplete()) {
            return null;
        }
        List<Integer> places = new ArrayList<>();
        for (int i = 0; i < query.size(); i++) {
            if (query.get(i) == 23) {
                places.add(i);
            }
        }
        if (k < 0 || k >= places.size()) {
            return null;
        }
        position = places.get(k) + 1;
        return pairs(documents.get(d));
    }

    private int matching() {
        int bits = 0;
        for (int d = 0; d < 6; d++) {
            bits += holds(d) ? 1 << d : 0;
        }
        return bits;
    }

    private int spans(int k, int d) {
        TreeSet<Integer> found = pairsOfHas(k, d);
        return found == null ? NONE : found.size();
    }

    private int begins(int k, int d, int b) {
        TreeSet<Integer> found = pairsOfHas(k, d);
        if (found != null) {
            for (int pair : found) {
                if (pair / 100 >= b) {
                    return pair / 100;
                }
            }
        }
        return NONE;
    }

    private int ends(int k, int d, int b) {
        TreeSet<Integer> found = pairsOfHas(k, d);
        if (found != null) {
            for (int pair : found) {
                if (pair / 100 == b) {
                    return pair % 100;
                }
            }
        }
        return NONE;
    }

    private int having(int w) {
        int bits = 0;
        for (int d = 0; d < 6; d++) {
            bits += documents.get(d).contains(w) ? 1 << d : 0;
        }
        return bits;
    }

    private long frequency(int w) {
        return documents.stream().flatMap(List::stream).filter(word -> word == w).count();
    }
}
