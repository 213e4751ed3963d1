/** Each promise of the document on ordinary inputs, on the edges it names, and on wrong inputs. */
public final class PhraseIndexPromisesTest {
    private static final int ONE_OF = 12;
    private static final int THEN = 13;
    private static final int WITHIN = 18;
    private static final int BOTH = 20;
    private static final int EITHER = 21;
    private static final int NOT = 22;
    private static final int HAS = 23;
    private static final int NONE = -1;
    private static final int FULL = -2;
    private static final int[] NO_DOCUMENTS = {-1, 6, 7, 32, Integer.MIN_VALUE, Integer.MAX_VALUE};
    private static final int[] NO_WORDS = {-1, 12, 13, 24, Integer.MIN_VALUE, Integer.MAX_VALUE};

    private static int wrong = 0;

    public static void main(String[] args) {
        constants();
        newObject();
        write();
        change();
        erase();
        length();
        ask();
        askAtTwelveTokens();
        unask();
        complete();
        holds();
        matching();
        words();
        oneOf();
        then();
        within();
        lastPlace();
        nestedExpressions();
        spans();
        begins();
        ends();
        having();
        frequency();
        hasTokens();
        System.out.println(wrong == 0 ? "all promises hold" : wrong + " answers are not as due");
        if (wrong != 0) {
            System.exit(1);
        }
    }

    private static void due(String call, long want, long got) {
        if (got != want) {
            wrong++;
            System.out.println(call + " answered " + got + ", due is " + want);
        }
    }

    private static void due(String call, boolean want, boolean got) {
        due(call, want ? 1 : 0, got ? 1 : 0);
    }

    private static void fill(PhraseIndex x, int d, int... words) {
        for (int w : words) {
            x.write(d, w);
        }
    }

    private static void query(PhraseIndex x, int... tokens) {
        while (x.unask() != NONE) {
            continue;
        }
        for (int i = 0; i < tokens.length; i++) {
            due("ask of token " + i + " (" + tokens[i] + ")", i + 1, x.ask(tokens[i]));
        }
    }

    /** The spans of the only HAS of a query, told as b, e, b, e, .. with one e, the least, for each b. */
    private static void dueSpans(String what, PhraseIndex x, int d, int count, int... leastEnds) {
        due(what + ": complete", true, x.complete());
        due(what + ": spans", count, x.spans(0, d));
        due(what + ": holds", count > 0, x.holds(d));
        int from = 0;
        for (int i = 0; i < leastEnds.length; i += 2) {
            due(what + ": begins from " + from, leastEnds[i], x.begins(0, d, from));
            due(what + ": ends at " + leastEnds[i], leastEnds[i + 1], x.ends(0, d, leastEnds[i]));
            from = leastEnds[i] + 1;
        }
        due(what + ": begins from " + from, NONE, x.begins(0, d, from));
    }

    private static void constants() {
        due("NONE", NONE, PhraseIndex.NONE);
        due("FULL", FULL, PhraseIndex.FULL);
    }

    private static void newObject() {
        PhraseIndex x = new PhraseIndex();
        for (int d = 0; d < 6; d++) {
            due("1: length", 0, x.length(d));
            due("1: holds", false, x.holds(d));
            due("1: spans", NONE, x.spans(0, d));
            due("1: begins", NONE, x.begins(0, d, 0));
            due("1: ends", NONE, x.ends(0, d, 0));
        }
        for (int w = 0; w < 12; w++) {
            due("1: having", 0, x.having(w));
            due("1: frequency", 0, x.frequency(w));
        }
        due("1: complete", false, x.complete());
        due("1: matching", 0, x.matching());
        due("1: hasTokens", 0, x.hasTokens());
        due("1: unask", NONE, x.unask());
        fill(x, 0, 1, 2, 3);
        query(x, HAS, 1);
        PhraseIndex other = new PhraseIndex();
        due("1: another object's length", 0, other.length(0));
        due("1: another object's query", false, other.complete());
        due("1: another object's unask", NONE, other.unask());
    }

    private static void write() {
        PhraseIndex x = new PhraseIndex();
        for (int p = 0; p < 24; p++) {
            for (int d = 0; d < 6; d++) {
                due("2: write", p, x.write(d, (p + d) % 12));
            }
        }
        for (int d = 0; d < 6; d++) {
            due("2: write to a full document", FULL, x.write(d, 0));
            due("2: length of a full document", 24, x.length(d));
            for (int w : NO_WORDS) {
                due("17: NONE before FULL, word " + w, NONE, x.write(d, w));
            }
        }
        for (int w = 0; w < 12; w++) {
            due("2: each word is kept", 12, x.frequency(w));
        }
        PhraseIndex y = new PhraseIndex();
        for (int bad : NO_DOCUMENTS) {
            due("2: write to document " + bad, NONE, y.write(bad, 0));
        }
        for (int bad : NO_WORDS) {
            due("2: write of word " + bad, NONE, y.write(0, bad));
        }
        due("2: a refused write changes nothing", 0, y.length(0));
        due("2: the first word's place", 0, y.write(0, 11));
        due("2: other documents stay empty", 0, y.length(1));
    }

    private static void change() {
        PhraseIndex x = new PhraseIndex();
        due("3: change in an empty document", false, x.change(0, 0, 1));
        fill(x, 0, 1, 2, 3);
        fill(x, 1, 1, 2, 3);
        due("3: change", true, x.change(0, 1, 7));
        due("3: length stays", 3, x.length(0));
        due("3: the old word is gone from document 0 alone", 2, x.having(2));
        due("3: the new word", 1, x.having(7));
        query(x, HAS, 7);
        due("3: at its place", 1, x.begins(0, 0, 0));
        due("3: change of the last place", true, x.change(0, 2, 0));
        due("3: to the same word", true, x.change(0, 2, 0));
        int[] noPlaces = {-1, 3, 4, 23, 24, Integer.MIN_VALUE, Integer.MAX_VALUE};
        for (int p : noPlaces) {
            due("3: change at place " + p, false, x.change(0, p, 5));
        }
        for (int bad : NO_DOCUMENTS) {
            due("3: change in document " + bad, false, x.change(bad, 0, 5));
        }
        for (int bad : NO_WORDS) {
            due("3: change to word " + bad, false, x.change(0, 0, bad));
        }
        due("3: a refused change changes nothing", 0, x.frequency(5));
        due("3: and leaves word 1", 2, x.frequency(1));
        due("3: write comes behind", 3, x.write(0, 9));
    }

    private static void erase() {
        PhraseIndex x = new PhraseIndex();
        for (int d = 0; d < 6; d++) {
            for (int i = 0; i < 24; i++) {
                x.write(d, 4);
            }
        }
        query(x, HAS, 4);
        due("4: erase", true, x.erase(2));
        due("4: length", 0, x.length(2));
        due("4: the others stay", 0b111011, x.having(4));
        due("4: frequency", 5 * 24, x.frequency(4));
        due("4: matching", 0b111011, x.matching());
        due("4: spans", 0, x.spans(0, 2));
        due("4: no place is left", false, x.change(2, 0, 4));
        due("4: the query stays", true, x.complete());
        due("4: write begins again", 0, x.write(2, 5));
        due("4: erased words don't come back", 0, x.spans(0, 2));
        due("4: erase of an empty document", true, x.erase(2) && x.erase(2));
        for (int bad : NO_DOCUMENTS) {
            due("4: erase of document " + bad, false, x.erase(bad));
        }
        due("4: a refused erase changes nothing", 5 * 24, x.frequency(4));
    }

    private static void length() {
        PhraseIndex x = new PhraseIndex();
        for (int d = 0; d < 6; d++) {
            for (int i = 0; i < d; i++) {
                x.write(d, i);
            }
            due("5: length", d, x.length(d));
        }
        for (int bad : NO_DOCUMENTS) {
            due("5: length of document " + bad, NONE, x.length(bad));
        }
    }

    private static void ask() {
        int[] noTokens = {-1, 19, 24, 25, Integer.MIN_VALUE, Integer.MAX_VALUE};
        for (int token = 0; token <= 23; token++) {
            boolean condition = token >= 20;
            boolean expression = token <= 18;
            PhraseIndex x = new PhraseIndex();
            due("6: first token " + token, condition ? 1 : NONE, x.ask(token));
            int[] beforeCondition = {NOT, BOTH, EITHER};
            for (int before : beforeCondition) {
                query(x, before);
                due("6: " + token + " behind " + before, condition ? 2 : NONE, x.ask(token));
            }
            query(x, BOTH, HAS, 3);
            due("6: " + token + " for the second condition", condition ? 4 : NONE, x.ask(token));
            query(x, HAS);
            due("6: " + token + " behind HAS", expression ? 2 : NONE, x.ask(token));
            for (int before = 12; before <= 18; before++) {
                query(x, HAS, before);
                due("6: " + token + " behind " + before, expression ? 3 : NONE, x.ask(token));
                query(x, HAS, before, 0);
                due("6: " + token + " for the second span", expression ? 4 : NONE, x.ask(token));
            }
            query(x, HAS, 0);
            due("6: " + token + " behind a complete query", FULL, x.ask(token));
        }
        PhraseIndex y = new PhraseIndex();
        for (int bad : noTokens) {
            due("6: no token " + bad, NONE, y.ask(bad));
        }
        due("6: HAS", 1, y.ask(HAS));
        for (int bad : noTokens) {
            due("6: no token behind HAS " + bad, NONE, y.ask(bad));
        }
        due("6: a refused token isn't kept", 2, y.ask(6));
        for (int bad : noTokens) {
            due("6: FULL before NONE " + bad, FULL, y.ask(bad));
        }
        due("6: FULL keeps nothing", 6, y.unask());
    }

    private static void askAtTwelveTokens() {
        PhraseIndex x = new PhraseIndex();
        query(x, NOT, NOT, NOT, NOT, NOT, NOT, NOT, NOT, NOT, NOT, NOT, NOT);
        due("6: twelve, not complete", FULL, x.ask(NOT));
        due("6: twelve, no token", FULL, x.ask(19));
        due("6: twelve, wrong kind", FULL, x.ask(0));
        due("8: twelve, not complete", false, x.complete());
        query(x, NOT, NOT, NOT, NOT, NOT, NOT, NOT, NOT, NOT, NOT, HAS, 3);
        due("8: twelve, complete", true, x.complete());
        due("6: twelve, complete", FULL, x.ask(NOT));
        due("10: twelve tokens", 0, x.matching());
        x.write(4, 3);
        due("10: twelve tokens", 1 << 4, x.matching());
    }

    private static void unask() {
        PhraseIndex x = new PhraseIndex();
        due("7: unask of no query", NONE, x.unask());
        int[] tokens = {BOTH, EITHER, NOT, HAS, WITHIN, 11, 17, 1, 0, HAS, 5, HAS};
        query(x, tokens);
        for (int i = tokens.length - 1; i >= 0; i--) {
            due("7: unask of token " + i, tokens[i], x.unask());
            due("7: asked again", i + 1, x.ask(tokens[i]));
            x.unask();
        }
        due("7: unask of an emptied query", NONE, x.unask());
        due("7: still none", NONE, x.unask());
        due("7: a span expression can't come then", NONE, x.ask(0));
        due("7: a condition can", 1, x.ask(HAS));
        query(x, BOTH, HAS, 1, HAS, ONE_OF, 2, 3);
        x.unask();
        x.unask();
        x.unask();
        due("7: back behind the second HAS: a condition", NONE, x.ask(HAS));
        x.unask();
        due("7: back behind BOTH's first: an expression", NONE, x.ask(1));
        due("7: and a condition", 4, x.ask(NOT));
    }

    private static void complete() {
        PhraseIndex x = new PhraseIndex();
        int[] tokens = {EITHER, HAS, 13, 1, 2, BOTH, NOT, HAS, 3, HAS, 4};
        for (int i = 0; i < tokens.length; i++) {
            due("8: complete before token " + i, false, x.complete());
            x.ask(tokens[i]);
        }
        due("8: complete", true, x.complete());
        x.unask();
        due("8: complete after unask", false, x.complete());
        x.ask(5);
        due("8: complete again", true, x.complete());
    }

    private static void holds() {
        for (int truth = 0; truth < 4; truth++) {
            boolean p = (truth & 1) != 0;
            boolean q = (truth & 2) != 0;
            PhraseIndex x = new PhraseIndex();
            x.write(3, p ? 1 : 0);
            x.write(3, q ? 2 : 0);
            query(x, BOTH, HAS, 1, HAS, 2);
            due("9: BOTH " + truth, p && q, x.holds(3));
            query(x, EITHER, HAS, 1, HAS, 2);
            due("9: EITHER " + truth, p || q, x.holds(3));
            query(x, NOT, HAS, 1);
            due("9: NOT " + truth, !p, x.holds(3));
            query(x, NOT, NOT, HAS, 1);
            due("9: NOT NOT " + truth, p, x.holds(3));
            query(x, BOTH, NOT, HAS, 1, HAS, 2);
            due("9: BOTH NOT " + truth, !p && q, x.holds(3));
            query(x, EITHER, HAS, 1, NOT, HAS, 2);
            due("9: EITHER, NOT " + truth, p || !q, x.holds(3));
            query(x, NOT, EITHER, BOTH, HAS, 1, HAS, 2, HAS, 3);
            due("9: three conditions " + truth, !(p && q), x.holds(3));
            query(x, BOTH, HAS, ONE_OF, 1, 2, EITHER, HAS, 1, HAS, 3);
            due("9: a second condition that is nested " + truth, p, x.holds(3));
        }
        PhraseIndex y = new PhraseIndex();
        query(y, NOT, HAS, 0);
        for (int d = 0; d < 6; d++) {
            due("9: holds for an empty document", true, y.holds(d));
        }
        for (int bad : NO_DOCUMENTS) {
            due("9: holds for document " + bad, false, y.holds(bad));
        }
        y.unask();
        due("9: not complete", false, y.holds(0));
    }

    private static void matching() {
        PhraseIndex x = new PhraseIndex();
        fill(x, 0, 1);
        fill(x, 2, 2, 1);
        fill(x, 5, 0, 0, 1);
        query(x, HAS, 1);
        due("10: matching", 0b100101, x.matching());
        query(x, NOT, HAS, 1);
        due("10: matching NOT", 0b011010, x.matching());
        x.unask();
        due("10: not complete", 0, x.matching());
        x.ask(3);
        due("10: all", 0b111111, x.matching());
        x.write(1, 3);
        due("10: after write", 0b111101, x.matching());
        x.change(1, 0, 4);
        due("10: after change", 0b111111, x.matching());
    }

    private static void words() {
        for (int w = 0; w < 12; w++) {
            PhraseIndex x = new PhraseIndex();
            for (int p = 0; p < 24; p++) {
                x.write(1, p % 12);
            }
            query(x, HAS, w);
            dueSpans("word " + w, x, 1, 2, w, w, w + 12, w + 12);
            dueSpans("word " + w + " elsewhere", x, 0, 0);
        }
    }

    private static void oneOf() {
        PhraseIndex x = new PhraseIndex();
        fill(x, 0, 1, 2, 3, 1);
        query(x, HAS, ONE_OF, 1, 3);
        dueSpans("ONE_OF", x, 0, 3, 0, 0, 2, 2, 3, 3);
        query(x, HAS, ONE_OF, 3, 1);
        dueSpans("ONE_OF turned round", x, 0, 3, 0, 0, 2, 2, 3, 3);
        query(x, HAS, ONE_OF, 1, 1);
        dueSpans("17: a span that comes about twice", x, 0, 2, 0, 0, 3, 3);
        query(x, HAS, ONE_OF, 14, 1, 2, 1);
        dueSpans("ONE_OF with two ends at one place", x, 0, 3, 0, 0, 3, 3);
        query(x, HAS, ONE_OF, 9, 9);
        dueSpans("ONE_OF of none", x, 0, 0);
    }

    private static void then() {
        for (int gap = 0; gap <= 4; gap++) {
            for (int s = 1; s <= 7; s++) {
                PhraseIndex x = new PhraseIndex();
                fill(x, 0, 1, 2, 3, 4, 5, 6, 7);
                for (int t = 1; t <= 7; t++) {
                    query(x, HAS, THEN + gap, s, t);
                    due("THEN " + gap + " of " + s + " and " + t, t - s == gap ? 1 : 0, x.spans(0, 0));
                }
            }
        }
        PhraseIndex y = new PhraseIndex();
        fill(y, 0, 0, 1, 0, 1, 0, 1);
        query(y, HAS, THEN + 1, 0, 1);
        dueSpans("THEN 1", y, 0, 3, 0, 1, 2, 3, 4, 5);
        query(y, HAS, THEN + 3, 0, 1);
        dueSpans("THEN 3", y, 0, 2, 0, 3, 2, 5);
        query(y, HAS, THEN, 0, 0);
        dueSpans("THEN 0 of a word with itself", y, 0, 3, 0, 0, 2, 2, 4, 4);
        query(y, HAS, THEN, 0, 1);
        dueSpans("THEN 0 of two words", y, 0, 0);
        query(y, HAS, THEN + 1, ONE_OF, THEN, 0, 0, THEN + 2, 0, 0, 1);
        dueSpans("THEN with two ends at one place", y, 0, 5, 0, 1, 2, 3, 4, 5);
        query(y, HAS, THEN + 1, ONE_OF, 0, THEN + 2, 0, 0, THEN + 1, 1, ONE_OF, 0, 1);
        dueSpans("THEN of three", y, 0, 3, 0, 2, 2, 4);
        PhraseIndex z = new PhraseIndex();
        for (int i = 0; i < 24; i++) {
            z.write(5, 7);
        }
        for (int gap = 0; gap <= 4; gap++) {
            query(z, HAS, THEN + gap, 7, 7);
            due("THEN " + gap + " to the last place", 24 - gap, z.spans(0, 5));
            due("THEN " + gap + " ends at the last place", 23, z.ends(0, 5, 23 - gap));
            due("THEN " + gap + " not beyond", gap == 0 ? 23 : NONE, z.ends(0, 5, 23));
        }
    }

    private static void within() {
        PhraseIndex x = new PhraseIndex();
        fill(x, 0, 5, 1, 2, 5, 3, 4, 5);
        query(x, HAS, WITHIN, 5, THEN + 3, 1, 3);
        dueSpans("WITHIN no span", x, 0, 1, 3, 3);
        query(x, HAS, WITHIN, 5, THEN + 3, 5, 5);
        dueSpans("WITHIN takes both edges", x, 0, 3, 0, 0, 3, 3, 6, 6);
        query(x, HAS, WITHIN, THEN + 3, 5, 5, THEN + 4, 2, 5);
        dueSpans("WITHIN a span that begins earlier and ends there", x, 0, 1, 3, 6);
        query(x, HAS, WITHIN, THEN + 1, 2, 5, THEN + 3, 1, 3);
        dueSpans("WITHIN strictly", x, 0, 1, 2, 3);
        query(x, HAS, WITHIN, THEN + 1, 2, 5, THEN + 1, 2, 5);
        dueSpans("WITHIN itself", x, 0, 1, 2, 3);
        query(x, HAS, WITHIN, THEN + 3, 1, 3, THEN + 1, 2, 5);
        dueSpans("WITHIN a shorter one", x, 0, 0);
        query(x, HAS, WITHIN, THEN + 1, 5, 3, THEN + 3, 5, 5);
        dueSpans("WITHIN the second of two", x, 0, 1, 3, 4);
        query(x, HAS, WITHIN, THEN + 1, 2, 5, ONE_OF, 2, 5);
        dueSpans("WITHIN two that only together cover it", x, 0, 0);
        query(x, HAS, WITHIN, 9, 5);
        dueSpans("WITHIN, none of s", x, 0, 0);
        query(x, HAS, WITHIN, 5, 9);
        dueSpans("WITHIN, none of t", x, 0, 0);
    }

    private static void lastPlace() {
        dueSpans("a word at the last place alone", fullDocument(HAS, 2), 0, 1, 23, 23);
        dueSpans("ONE_OF, the first at the last place", fullDocument(HAS, ONE_OF, 2, 9), 0, 1, 23, 23);
        dueSpans("ONE_OF, the second at the last place", fullDocument(HAS, ONE_OF, 9, 2), 0, 1, 23, 23);
        dueSpans("THEN 0 at the last place", fullDocument(HAS, THEN + 1, 1, THEN, 2, 2), 0, 1, 22, 23);
        dueSpans("WITHIN at the last place", fullDocument(HAS, WITHIN, 2, 2), 0, 1, 23, 23);
        dueSpans("WITHIN a span that ends at the last place",
            fullDocument(HAS, WITHIN, 2, THEN + 1, 1, 2), 0, 1, 23, 23);
        dueSpans("WITHIN, both end at the last place",
            fullDocument(HAS, WITHIN, THEN + 2, 0, 2, THEN + 4, 0, 2), 0, 1, 21, 23);
    }

    /** A new object, so that nothing an earlier query left behind can help. */
    private static PhraseIndex fullDocument(int... tokens) {
        PhraseIndex x = new PhraseIndex();
        for (int i = 0; i < 22; i++) {
            x.write(0, 0);
        }
        fill(x, 0, 1, 2);
        query(x, tokens);
        return x;
    }

    private static void nestedExpressions() {
        PhraseIndex x = new PhraseIndex();
        fill(x, 0, 0, 1, 0, 1, 0, 1, 0, 1);
        query(x, HAS, WITHIN, THEN, 0, THEN + 2, ONE_OF, 0, 1, 0, THEN + 1, 0, 1);
        dueSpans("0 at the begin of (0 or 1), two on 0, within 0 1", x, 0, 0);
        query(x, HAS, WITHIN, ONE_OF, 0, 1, THEN + 1, THEN + 1, 0, 1, 0);
        dueSpans("0 or 1 within 0 1 0", x, 0, 7, 0, 0, 1, 1, 2, 2, 3, 3, 4, 4, 5, 5, 6, 6);
        query(x, HAS, THEN + 1, THEN + 1, THEN + 1, THEN + 1, THEN + 1, 0, 1, 0, 1, 0, 1);
        due("8: nested to the left, complete", true, x.complete());
        dueSpans("nested to the left", x, 0, 2, 0, 5, 2, 7);
        query(x, HAS, THEN + 1, 0, THEN + 1, 1, THEN + 1, 0, THEN + 1, 1, THEN + 1, 0, 1);
        dueSpans("nested to the right", x, 0, 2, 0, 5, 2, 7);
    }

    private static void spans() {
        PhraseIndex x = new PhraseIndex();
        fill(x, 0, 1, 1, 1, 2, 2);
        query(x, BOTH, NOT, HAS, 1, EITHER, HAS, 2, HAS, THEN + 1, 1, 2);
        due("11: first HAS", 3, x.spans(0, 0));
        due("11: second HAS", 2, x.spans(1, 0));
        due("11: third HAS", 1, x.spans(2, 0));
        due("11: another document", 0, x.spans(0, 1));
        int[] noHas = {-1, 3, 4, 12, Integer.MIN_VALUE, Integer.MAX_VALUE};
        for (int k : noHas) {
            due("11: HAS " + k, NONE, x.spans(k, 0));
            due("12: HAS " + k, NONE, x.begins(k, 0, 0));
            due("13: HAS " + k, NONE, x.ends(k, 0, 0));
        }
        for (int bad : NO_DOCUMENTS) {
            due("11: document " + bad, NONE, x.spans(0, bad));
            due("12: document " + bad, NONE, x.begins(0, bad, 0));
            due("13: document " + bad, NONE, x.ends(0, bad, 0));
        }
        x.unask();
        due("11: not complete", NONE, x.spans(0, 0));
        due("12: not complete", NONE, x.begins(0, 0, 0));
        due("13: not complete", NONE, x.ends(0, 0, 0));
        PhraseIndex y = new PhraseIndex();
        fill(y, 0, 1, 1, 1, 1, 1);
        query(y, HAS, THEN + 1, ONE_OF, 1, THEN + 1, 1, 1, ONE_OF, 1, THEN + 1, 1, 1);
        due("17: pairs that come about in two ways", 4 + 3 + 2, y.spans(0, 0));
    }

    private static void begins() {
        PhraseIndex x = new PhraseIndex();
        fill(x, 0, 0, 3, 0, 3, 3, 0);
        query(x, BOTH, HAS, 3, HAS, THEN + 1, 0, 3);
        int[] least = {1, 1, 3, 3, 4, NONE, NONE};
        for (int b = 0; b < least.length; b++) {
            due("12: begins from " + b, least[b], x.begins(0, 0, b));
        }
        due("12: the second HAS", 2, x.begins(1, 0, 1));
        due("12: an empty document", NONE, x.begins(0, 1, 0));
        due("17: below 0", 1, x.begins(0, 0, -1));
        due("17: far below 0", 1, x.begins(0, 0, Integer.MIN_VALUE));
        due("17: from 24", NONE, x.begins(0, 0, 24));
        due("17: far above", NONE, x.begins(0, 0, Integer.MAX_VALUE));
        PhraseIndex y = new PhraseIndex();
        for (int i = 0; i < 24; i++) {
            y.write(5, 2);
            y.write(4, 2);
        }
        query(y, HAS, 2);
        due("12: the last place", 23, y.begins(0, 5, 23));
        due("17: no place above it", NONE, y.begins(0, 4, 24));
    }

    private static void ends() {
        PhraseIndex x = new PhraseIndex();
        fill(x, 0, 0, 3, 3, 0, 3);
        query(x, EITHER, HAS, ONE_OF, THEN + 2, 0, 3, THEN + 1, 0, 3, HAS, 3);
        due("13: the least of two ends", 1, x.ends(0, 0, 0));
        due("13: two spans from 0, one from 3", 3, x.spans(0, 0));
        due("13: none begins there", NONE, x.ends(0, 0, 1));
        due("13: the other", 4, x.ends(0, 0, 3));
        due("13: the second HAS", 2, x.ends(1, 0, 2));
        due("13: the second HAS, none", NONE, x.ends(1, 0, 0));
        due("13: behind the last word", NONE, x.ends(1, 0, 5));
        due("13: an empty document", NONE, x.ends(0, 1, 0));
        int[] noPlaces = {-1, 24, 25, 48, Integer.MIN_VALUE, Integer.MAX_VALUE};
        for (int b : noPlaces) {
            due("17: ends at " + b, NONE, x.ends(0, 0, b));
        }
        PhraseIndex y = new PhraseIndex();
        for (int i = 0; i < 24; i++) {
            y.write(5, 2);
        }
        query(y, BOTH, HAS, 2, HAS, 2);
        for (int b = 0; b < 24; b++) {
            due("13: ends at place " + b, b, y.ends(0, 5, b));
        }
        for (int b : noPlaces) {
            due("17: ends at " + b + " of a full document", NONE, y.ends(0, 5, b));
        }
    }

    private static void having() {
        PhraseIndex x = new PhraseIndex();
        fill(x, 0, 0, 11);
        fill(x, 3, 11, 11);
        fill(x, 5, 11, 0);
        due("14: having", 0b101001, x.having(11));
        due("14: having word 0", 0b100001, x.having(0));
        due("14: having none", 0, x.having(5));
        for (int bad : NO_WORDS) {
            due("14: having " + bad, 0, x.having(bad));
        }
        x.change(3, 0, 4);
        due("14: one is left", 0b101001, x.having(11));
        x.change(3, 1, 4);
        due("14: none is left", 0b100001, x.having(11));
        x.erase(5);
        due("14: after erase", 0b000001, x.having(11));
    }

    private static void frequency() {
        PhraseIndex x = new PhraseIndex();
        for (int d = 0; d < 6; d++) {
            for (int i = 0; i < 24; i++) {
                x.write(d, 8);
            }
        }
        due("15: frequency in all places", 144, x.frequency(8));
        due("15: frequency of another", 0, x.frequency(0));
        x.change(0, 23, 0);
        x.change(5, 0, 0);
        due("15: after change", 142, x.frequency(8));
        due("15: of the new word", 2, x.frequency(0));
        x.erase(0);
        due("15: after erase", 119, x.frequency(8));
        due("15: of the new word after erase", 1, x.frequency(0));
        for (int bad : NO_WORDS) {
            due("15: frequency of " + bad, 0, x.frequency(bad));
        }
    }

    private static void hasTokens() {
        PhraseIndex x = new PhraseIndex();
        int[] tokens = {BOTH, HAS, 1, BOTH, HAS, 1, BOTH, HAS, 1, HAS, 2};
        int[] counts = {0, 1, 1, 1, 2, 2, 2, 3, 3, 4, 4};
        for (int i = 0; i < tokens.length; i++) {
            x.ask(tokens[i]);
            due("16: hasTokens behind token " + i, counts[i], x.hasTokens());
        }
        x.ask(HAS);
        due("16: a refused HAS doesn't count", 4, x.hasTokens());
        for (int i = tokens.length - 1; i >= 0; i--) {
            due("16: hasTokens before unask " + i, counts[i], x.hasTokens());
            x.unask();
        }
        due("16: of no query", 0, x.hasTokens());
        query(x, HAS, 1);
        due("16: HAS as the first token", 1, x.hasTokens());
    }
}
