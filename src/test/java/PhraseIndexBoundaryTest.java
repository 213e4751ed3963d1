import java.util.Arrays;
import java.util.function.ToIntFunction;

/**
 * One test for each sentence of the document that names a boundary case, under that sentence.
 * Each test makes its own objects, so that no earlier test can help or hide a fault.
 */
public final class PhraseIndexBoundaryTest {
    private static final int ONE_OF = 12;
    private static final int THEN = 13;
    private static final int WITHIN = 18;
    private static final int BOTH = 20;
    private static final int EITHER = 21;
    private static final int NOT = 22;
    private static final int HAS = 23;
    private static final int NONE = -1;
    private static final int FULL = -2;
    private static final int LEAST = Integer.MIN_VALUE;
    private static final int GREATEST = Integer.MAX_VALUE;

    // Beside the nearest and the farthest: 32 and 33 wrap in a shift, and 24 * 2^29 wraps to 0.
    private static final int[] NO_DOCUMENTS = {-1, 6, -2, 7, 32, 33, -32, 1 << 29, -(1 << 29), LEAST, GREATEST};
    private static final int[] NO_WORDS = {-1, 12, -2, 13, 23, 32, 44, 1 << 29, LEAST, GREATEST};
    private static final int[] NO_TOKENS = {-1, 19, 24, -2, 25, 32, 1 << 29, LEAST, GREATEST};
    private static final int[] NO_PLACES = {-1, 24, -2, 25, -24, 48, 1 << 29, LEAST, GREATEST};
    private static final int[] EMPTY = {};

    private static String sentence = "";
    private static int tests = 0;
    private static int wrong = 0;

    public static void main(String[] args) {
        whatItIs();
        termsOfDocuments();
        termsOfConditions();
        termsOfSpans();
        promises1To5();
        promises6To8();
        promises9To13();
        promises14To16();
        promise17();
        System.out.println(tests + " boundary cases, " + wrong + " answers not as due");
        if (wrong != 0) {
            System.exit(1);
        }
    }

    private static void test(String words, Runnable body) {
        sentence = words;
        tests++;
        try {
            body.run();
        } catch (RuntimeException thrown) {
            fault("a call threw " + thrown + " at " + thrown.getStackTrace()[0]);
        }
    }

    private static void fault(String what) {
        wrong++;
        System.out.println(sentence + "\n    " + what);
    }

    private static void due(String call, int want, int got) {
        if (got != want) {
            fault(call + " answered " + got + ", due is " + want);
        }
    }

    private static void due(String call, boolean want, boolean got) {
        if (got != want) {
            fault(call + " answered " + got + ", due is " + want);
        }
    }

    private static PhraseIndex written(PhraseIndex x, int d, int... words) {
        for (int w : words) {
            x.write(d, w);
        }
        return x;
    }

    private static PhraseIndex asked(PhraseIndex x, int... tokens) {
        for (int i = 0; i < tokens.length; i++) {
            due("ask(" + tokens[i] + ") as token " + i, i + 1, x.ask(tokens[i]));
        }
        return x;
    }

    private static int[] times(int count, int value) {
        int[] values = new int[count];
        Arrays.fill(values, value);
        return values;
    }

    private static int[] join(int[] first, int... second) {
        int[] joined = Arrays.copyOf(first, first.length + second.length);
        System.arraycopy(second, 0, joined, first.length, second.length);
        return joined;
    }

    /** The whole state, read by taking the query away and then asking for each word in turn. */
    private static void dueState(PhraseIndex x, int[] tokens, int[]... documents) {
        for (int i = tokens.length - 1; i >= 0; i--) {
            due("unask() of token " + i, tokens[i], x.unask());
        }
        due("unask() behind the last", NONE, x.unask());
        x.ask(HAS);
        for (int w = 0; w < 12; w++) {
            x.ask(w);
            for (int d = 0; d < 6; d++) {
                duePlaces(x, d, w, d < documents.length ? documents[d] : EMPTY);
            }
            x.unask();
        }
        for (int d = 0; d < 6; d++) {
            due("length(" + d + ")", d < documents.length ? documents[d].length : 0, x.length(d));
        }
    }

    private static void duePlaces(PhraseIndex x, int d, int w, int[] words) {
        int from = 0;
        for (int p = 0; p < words.length; p++) {
            if (words[p] == w) {
                due("the place of word " + w + " in " + d + " from " + from, p, x.begins(0, d, from));
                from = p + 1;
            }
        }
        due("the place of word " + w + " in " + d + " from " + from, NONE, x.begins(0, d, from));
    }

    /** The spans of the only HAS as b, e, b, e, .. with the least e of each b. */
    private static void dueSpans(PhraseIndex x, int d, int count, int... leastEnds) {
        due("spans(0, " + d + ")", count, x.spans(0, d));
        due("holds(" + d + ")", count > 0, x.holds(d));
        int from = 0;
        for (int i = 0; i < leastEnds.length; i += 2) {
            due("begins from " + from, leastEnds[i], x.begins(0, d, from));
            due("ends at " + leastEnds[i], leastEnds[i + 1], x.ends(0, d, leastEnds[i]));
            from = leastEnds[i] + 1;
        }
        due("begins from " + from, NONE, x.begins(0, d, from));
    }

    private static void whatItIs() {
        test("What it is: an object is used for at most 512 calls: the 512th is answered as due", () -> {
            due512th("write", 1, x -> x.write(0, 3));
            due512th("change", 1, x -> x.change(5, 23, 3) ? 1 : 0);
            due512th("erase", 1, x -> x.erase(5) ? 1 : 0);
            due512th("length", 24, x -> x.length(5));
            due512th("ask", FULL, x -> x.ask(HAS));
            due512th("unask", 2, x -> x.unask());
            due512th("complete", 1, x -> x.complete() ? 1 : 0);
            due512th("holds", 1, x -> x.holds(5) ? 1 : 0);
            due512th("matching", 0b100001, x -> x.matching());
            due512th("spans", 24, x -> x.spans(0, 5));
            due512th("begins", 23, x -> x.begins(0, 5, 23));
            due512th("ends", 23, x -> x.ends(0, 5, 23));
            due512th("having", 0b100001, x -> x.having(2));
            due512th("frequency", 25, x -> x.frequency(2));
            due512th("hasTokens", 1, x -> x.hasTokens());
        });
        test("What it is: 512 asks: no more than 12 tokens are kept", () -> {
            PhraseIndex x = new PhraseIndex();
            for (int call = 1; call <= 512; call++) {
                due("ask, call " + call, call <= 12 ? call : FULL, x.ask(NOT));
            }
        });
        test("What it is: 512 writes: no more than 24 words are kept", () -> {
            PhraseIndex x = new PhraseIndex();
            for (int call = 1; call <= 512; call++) {
                due("write, call " + call, call <= 24 ? call - 1 : FULL, x.write(3, 8));
            }
        });
        test("What it is: what later calls answer is free, but rule 7 holds: they end and don't throw", () -> {
            PhraseIndex x = new PhraseIndex();
            for (int call = 0; call < 5000; call++) {
                x.write(call % 6, call % 12);
                x.ask(call % 24);
                x.matching();
                x.begins(call % 4, call % 6, call % 24);
                if (call % 7 == 0) {
                    x.unask();
                    x.erase(call % 6);
                }
            }
        });
    }

    /** The 512th call of an object with a full document 5 and one word in document 0, all of them 2. */
    private static void due512th(String call, int want, ToIntFunction<PhraseIndex> last) {
        PhraseIndex x = new PhraseIndex();
        int calls = 0;
        for (; calls < 24; calls++) {
            x.write(5, 2);
        }
        x.ask(HAS);
        calls++;
        while (calls < 511 - 4) {
            x.erase(0);
            x.write(0, 2);
            x.ask(2);
            x.unask();
            calls += 4;
        }
        x.ask(2);
        calls++;
        for (; calls < 511; calls++) {
            x.matching();
        }
        due(call + " as call " + (calls + 1), want, last.applyAsInt(x));
    }

    private static void termsOfDocuments() {
        test("Terms: there are documents 0 .. 5: the first and the last, each with its own words", () -> {
            PhraseIndex x = new PhraseIndex();
            int[][] documents = new int[6][];
            for (int d = 0; d < 6; d++) {
                documents[d] = new int[] {d, 11 - d};
                written(x, d, documents[d]);
            }
            dueState(x, EMPTY, documents);
        });
        test("Terms: each a list of at most 24 words: all six full, none runs into the next", () -> {
            PhraseIndex x = new PhraseIndex();
            int[][] documents = new int[6][];
            for (int d = 0; d < 6; d++) {
                documents[d] = times(24, d);
                written(x, d, documents[d]);
                due("write(" + d + ", 9) as the 25th", FULL, x.write(d, 9));
            }
            dueState(x, EMPTY, documents);
        });
        test("Terms: words are numbers 0 .. 11: the least and the greatest", () -> {
            PhraseIndex x = written(new PhraseIndex(), 0, 0, 11);
            due("frequency(0)", 1, x.frequency(0));
            due("frequency(11)", 1, x.frequency(11));
            dueState(x, EMPTY, new int[] {0, 11});
        });
        test("Terms: at places 0, 1, .. : the first place is 0 and the last is 23", () -> {
            int[] words = join(join(new int[] {1}, times(22, 0)), 2);
            PhraseIndex first = asked(written(new PhraseIndex(), 4, words), HAS, 1);
            dueSpans(first, 4, 1, 0, 0);
            PhraseIndex last = asked(written(new PhraseIndex(), 4, words), HAS, 2);
            dueSpans(last, 4, 1, 23, 23);
        });
        test("Terms: a QUERY is a list of at most 12 tokens: a query of 12 is whole and is applied", () -> {
            int[] ten = times(10, NOT);
            PhraseIndex x = asked(written(new PhraseIndex(), 2, 6), join(ten, HAS, 6));
            due("complete()", true, x.complete());
            due("matching()", 0b000100, x.matching());
            due("spans(0, 2)", 1, x.spans(0, 2));
            dueState(x, join(ten, HAS, 6), EMPTY, EMPTY, new int[] {6});
        });
        test("Terms: a QUERY is a list of at most 12 tokens: the 12th may be a condition's second part", () -> {
            PhraseIndex x = written(written(new PhraseIndex(), 1, 1, 2, 3), 5, 1, 2, 3, 4);
            asked(x, BOTH, HAS, 1, BOTH, HAS, 2, BOTH, HAS, 3, NOT, HAS, 4);
            due("complete()", true, x.complete());
            due("matching()", 0b000010, x.matching());
            due("spans(3, 5)", 1, x.spans(3, 5));
            due("spans(3, 1)", 0, x.spans(3, 1));
        });
        test("Terms: a QUERY is a list of at most 12 tokens: the 12th may be an expression's second part", () -> {
            int[] nine = join(times(8, NOT), HAS);
            int[] words = {1, 2};
            dueSpans(asked(written(new PhraseIndex(), 0, words), join(nine, ONE_OF, 1, 2)), 0, 2, 0, 0, 1, 1);
            dueSpans(asked(written(new PhraseIndex(), 0, words), join(nine, THEN + 1, 1, 2)), 0, 1, 0, 1);
            dueSpans(asked(written(new PhraseIndex(), 0, words), join(nine, WITHIN, 2, 2)), 0, 1, 1, 1);
        });
    }

    private static void termsOfConditions() {
        test("Terms: BOTH: both conditions hold: one of them is not enough", () -> {
            dueMatching(0b001000, BOTH, HAS, 1, HAS, 2);
        });
        test("Terms: EITHER: at least one of them holds: one, or both, but not none", () -> {
            dueMatching(0b001110, EITHER, HAS, 1, HAS, 2);
        });
        test("Terms: NOT: the condition does not hold: empty documents too", () -> {
            dueMatching(0b110101, NOT, HAS, 1);
        });
        test("Terms: HAS: there is a SPAN of s in the document: never in an empty one", () -> {
            dueMatching(0b001010, HAS, 1);
            for (int w = 0; w < 12; w++) {
                due("matching() of word " + w, 0, asked(new PhraseIndex(), HAS, w).matching());
            }
        });
        test("Terms: BOTH c d, EITHER c d: d comes behind the whole of c, however long that is", () -> {
            dueMatching(0b000100, BOTH, NOT, HAS, 1, HAS, 2);
            dueMatching(0b111101, EITHER, NOT, HAS, 1, HAS, 2);
            dueMatching(0b000000, BOTH, BOTH, HAS, 1, HAS, 2, HAS, 3);
            dueMatching(0b101000, EITHER, BOTH, HAS, 1, HAS, 2, HAS, 3);
            dueMatching(0b001010, BOTH, EITHER, HAS, 1, HAS, 3, HAS, 1);
            dueMatching(0b101110, EITHER, EITHER, HAS, 1, HAS, 2, HAS, 3);
            dueMatching(0b001000, BOTH, HAS, THEN + 1, 1, 2, HAS, 2);
        });
        test("Terms: the query is COMPLETE when its tokens are one whole condition: the shortest", () -> {
            PhraseIndex x = new PhraseIndex();
            due("complete() of no token", false, x.complete());
            x.ask(HAS);
            due("complete() of HAS alone", false, x.complete());
            x.ask(0);
            due("complete() of HAS 0", true, x.complete());
        });
        test("Terms: the query is COMPLETE when its tokens are one whole condition: 12 that are not", () -> {
            due("complete() of NOTs", false, asked(new PhraseIndex(), times(12, NOT)).complete());
            due("complete() of BOTHs", false, asked(new PhraseIndex(), times(12, BOTH)).complete());
            PhraseIndex x = asked(new PhraseIndex(), join(new int[] {HAS}, times(11, THEN + 4)));
            due("complete() of HAS and THENs", false, x.complete());
            PhraseIndex y = asked(new PhraseIndex(), join(times(11, NOT), HAS));
            due("complete() with HAS as the 12th", false, y.complete());
            PhraseIndex z = asked(new PhraseIndex(), BOTH, HAS, 1, BOTH, HAS, 2, BOTH, HAS, 3, BOTH, HAS, 4);
            due("complete() with the last condition due", false, z.complete());
        });
        test("Terms: the query is COMPLETE when its tokens are one whole condition: each part of one is not", () -> {
            int[] tokens = {EITHER, BOTH, HAS, 0, NOT, HAS, WITHIN, 1, 2, HAS, 11};
            PhraseIndex x = new PhraseIndex();
            for (int token : tokens) {
                due("complete() before " + token, false, x.complete());
                x.ask(token);
            }
            due("complete() of all", true, x.complete());
        });
    }

    /** Documents 0 and 4 are empty, 1 has the word 1, 2 has 2, 3 has both, and 5 has another. */
    private static void dueMatching(int want, int... tokens) {
        PhraseIndex x = new PhraseIndex();
        written(x, 1, 1);
        written(x, 2, 2);
        written(x, 3, 1, 2);
        written(x, 5, 3);
        due("matching() of " + Arrays.toString(tokens), want, asked(x, tokens).matching());
    }

    private static void termsOfSpans() {
        test("Terms: a word: (p, p) for every place p of the document that has the word: none and all", () -> {
            PhraseIndex x = asked(written(new PhraseIndex(), 1, times(24, 0)), HAS, 0);
            due("spans of all", 24, x.spans(0, 1));
            for (int p = 0; p < 24; p++) {
                due("ends at " + p, p, x.ends(0, 1, p));
            }
            dueSpans(x, 0, 0);
            dueSpans(x, 2, 0);
        });
        test("Terms: a word: .. every place p of the document: not the places it had before erase", () -> {
            PhraseIndex x = asked(written(new PhraseIndex(), 1, times(24, 7)), HAS, 7);
            x.erase(1);
            dueSpans(x, 1, 0);
            written(x, 1, 5, 7);
            dueSpans(x, 1, 1, 1, 1);
        });
        test("Terms: ONE_OF s t: the spans of s and those of t: one, the other or both are empty", () -> {
            dueSpans(asked(written(new PhraseIndex(), 0, 1, 2), HAS, ONE_OF, 1, 9), 0, 1, 0, 0);
            dueSpans(asked(written(new PhraseIndex(), 0, 1, 2), HAS, ONE_OF, 9, 2), 0, 1, 1, 1);
            dueSpans(asked(written(new PhraseIndex(), 0, 1, 2), HAS, ONE_OF, 9, 8), 0, 0);
        });
        test("Terms: 13 + d THEN, d from 0 to 4: 13 goes 0 on, 17 goes 4 on", () -> {
            int[] words = {1, 2, 3, 4, 5, 6};
            for (int d = 0; d <= 4; d++) {
                for (int t = 1; t <= 6; t++) {
                    PhraseIndex x = asked(written(new PhraseIndex(), 0, words), HAS, THEN + d, 1, t);
                    boolean joins = t - 1 == d;
                    dueSpans(x, 0, joins ? 1 : 0, joins ? new int[] {0, d} : EMPTY);
                }
            }
        });
        test("Terms: d from 0 to 4: 12 and 18 are no THEN", () -> {
            int[] words = {1, 1, 1, 1, 1, 2};
            dueSpans(asked(written(new PhraseIndex(), 0, words), HAS, WITHIN, 1, 2), 0, 0);
            PhraseIndex x = asked(written(new PhraseIndex(), 0, words), HAS, ONE_OF, 2, 1);
            dueSpans(x, 0, 6, 0, 0, 1, 1, 2, 2, 3, 3, 4, 4, 5, 5);
        });
        test("Terms: THEN: a span (b, e) of s and a span (e + d, f) of t: up to the last place, not past it", () -> {
            for (int d = 0; d <= 4; d++) {
                PhraseIndex x = asked(written(new PhraseIndex(), 3, times(24, 7)), HAS, THEN + d, 7, 7);
                due("spans, THEN " + d, 24 - d, x.spans(0, 3));
                due("the last begin, THEN " + d, 23 - d, x.begins(0, 3, 23 - d));
                due("its end, THEN " + d, 23, x.ends(0, 3, 23 - d));
                due("no begin behind it, THEN " + d, NONE, x.begins(0, 3, 24 - d));
            }
        });
        test("Terms: THEN: e + d does not run into the next document, nor round to the first place", () -> {
            for (int d = 1; d <= 4; d++) {
                PhraseIndex x = written(new PhraseIndex(), 0, join(times(23, 0), 1));
                written(x, 1, times(24, 2));
                x.change(0, d - 1, 2);
                dueSpans(asked(x, HAS, THEN + d, 1, 2), 0, 0);
                PhraseIndex y = written(written(new PhraseIndex(), 0, 1), 1, times(24, 2));
                dueSpans(asked(y, HAS, THEN + d, 1, 2), 0, 0);
            }
        });
        test("Terms: THEN: the span of t begins at e + d, not at b + d", () -> {
            PhraseIndex x = written(new PhraseIndex(), 0, 1, 2, 3, 4);
            dueSpans(asked(x, HAS, THEN + 1, THEN + 2, 1, 3, 4), 0, 1, 0, 3);
            PhraseIndex y = written(new PhraseIndex(), 0, 1, 2, 3, 4);
            dueSpans(asked(y, HAS, THEN + 1, THEN + 2, 1, 3, 2), 0, 0);
        });
        test("Terms: THEN: five of distance 4 make the longest span that 12 tokens can ask for", () -> {
            int[] left = join(join(new int[] {HAS}, times(5, THEN + 4)), times(6, 9));
            PhraseIndex x = asked(written(new PhraseIndex(), 2, times(24, 9)), left);
            dueSpans(x, 2, 4, 0, 20, 1, 21, 2, 22, 3, 23);
            PhraseIndex y = asked(written(new PhraseIndex(), 2, times(20, 9)), left);
            dueSpans(y, 2, 0);
            PhraseIndex z = asked(written(new PhraseIndex(), 2, times(21, 9)), left);
            dueSpans(z, 2, 1, 0, 20);
        });
        test("Terms: WITHIN: c <= b: equal and less, but not greater by one", () -> {
            dueWithin(true, THEN + 1, 2, 3, THEN + 2, 2, 4);
            dueWithin(true, THEN + 1, 2, 3, THEN + 3, 1, 4);
            dueWithin(false, THEN + 1, 2, 3, THEN + 1, 3, 4);
        });
        test("Terms: WITHIN: e <= f: equal and less, but not greater by one", () -> {
            dueWithin(true, THEN + 1, 2, 3, THEN + 2, 1, 3);
            dueWithin(true, THEN + 1, 2, 3, THEN + 3, 1, 4);
            dueWithin(false, THEN + 1, 2, 3, THEN + 1, 1, 2);
        });
        test("Terms: WITHIN: c <= b and e <= f: both equal, and both for one span of t", () -> {
            dueWithin(true, THEN + 1, 2, 3, THEN + 1, 2, 3);
            dueWithin(false, THEN + 1, 2, 3, ONE_OF, THEN + 1, 1, 2, THEN + 1, 3, 4);
            dueWithin(false, THEN + 1, 2, 3, ONE_OF, 2, 3);
        });
        test("Terms: WITHIN: the spans of s, not those of t; none when s or t has none", () -> {
            dueWithin(false, 9, THEN + 3, 1, 4);
            dueWithin(false, THEN + 1, 2, 3, 9);
            PhraseIndex x = asked(written(new PhraseIndex(), 0, 1, 2, 3), HAS, WITHIN, 2, THEN + 2, 1, 3);
            dueSpans(x, 0, 1, 1, 1);
        });
        test("Terms: WITHIN: spans at the first and at the last place of a full document", () -> {
            int[] words = join(join(new int[] {5}, times(22, 0)), 5);
            dueSpans(asked(written(new PhraseIndex(), 0, words), HAS, WITHIN, 5, 5), 0, 2, 0, 0, 23, 23);
            PhraseIndex x = asked(written(new PhraseIndex(), 0, words), HAS, WITHIN, 5, THEN + 1, 5, 0);
            dueSpans(x, 0, 1, 0, 0);
            PhraseIndex y = asked(written(new PhraseIndex(), 0, words), HAS, WITHIN, 5, THEN + 1, 0, 5);
            dueSpans(y, 0, 1, 23, 23);
        });
    }

    private static void dueWithin(boolean want, int... operands) {
        PhraseIndex x = written(new PhraseIndex(), 0, 1, 2, 3, 4);
        asked(x, join(new int[] {HAS, WITHIN}, operands));
        due("complete() of WITHIN " + Arrays.toString(operands), true, x.complete());
        due("holds(0) of WITHIN " + Arrays.toString(operands), want, x.holds(0));
    }

    private static void promises1To5() {
        test("1: empty documents, no query", () -> {
            dueState(new PhraseIndex(), EMPTY);
            PhraseIndex x = new PhraseIndex();
            due("hasTokens()", 0, x.hasTokens());
            due("complete()", false, x.complete());
            due("matching()", 0, x.matching());
            for (int w = 0; w < 12; w++) {
                due("having(" + w + ")", 0, x.having(w));
                due("frequency(" + w + ")", 0, x.frequency(w));
            }
        });
        test("1: empty documents, no query: also beside an object that is in use", () -> {
            asked(written(new PhraseIndex(), 0, 1, 2, 3), HAS, 1);
            dueState(new PhraseIndex(), EMPTY);
        });
        test("2: write: NONE when d is not 0 .. 5", () -> {
            PhraseIndex x = new PhraseIndex();
            for (int d : NO_DOCUMENTS) {
                due("write(" + d + ", 0)", NONE, x.write(d, 0));
            }
            dueState(x, EMPTY);
        });
        test("2: write: NONE when w is not 0 .. 11", () -> {
            PhraseIndex x = new PhraseIndex();
            for (int w : NO_WORDS) {
                due("write(0, " + w + ")", NONE, x.write(0, w));
                due("write(5, " + w + ")", NONE, x.write(5, w));
            }
            dueState(x, EMPTY);
        });
        test("2: write: FULL when it has 24: the 24th is taken, the 25th changes nothing", () -> {
            PhraseIndex x = written(new PhraseIndex(), 5, times(23, 1));
            due("the 24th write", 23, x.write(5, 11));
            due("the 25th write", FULL, x.write(5, 0));
            due("the 26th write", FULL, x.write(5, 11));
            due("write to another document", 0, x.write(0, 3));
            dueState(x, EMPTY, new int[] {3}, EMPTY, EMPTY, EMPTY, EMPTY, join(times(23, 1), 11));
        });
        test("2: write: FULL when it has 24: an erased document has none", () -> {
            PhraseIndex x = written(new PhraseIndex(), 0, times(24, 4));
            x.erase(0);
            for (int p = 0; p < 24; p++) {
                due("write " + p + " behind erase", p, x.write(0, 6));
            }
            due("the 25th write behind erase", FULL, x.write(0, 6));
        });
        test("3: change: false, changing nothing, when d is not 0 .. 5", () -> {
            PhraseIndex x = written(written(new PhraseIndex(), 0, 1, 2), 5, 3);
            for (int d : NO_DOCUMENTS) {
                due("change(" + d + ", 0, 9)", false, x.change(d, 0, 9));
            }
            dueState(x, EMPTY, new int[] {1, 2}, EMPTY, EMPTY, EMPTY, EMPTY, new int[] {3});
        });
        test("3: change: false, changing nothing, when p is no place of it", () -> {
            PhraseIndex x = written(written(new PhraseIndex(), 0, 1, 2), 1, 3);
            int[] behind = {2, 3, 23};
            for (int p : join(NO_PLACES, behind)) {
                due("change(0, " + p + ", 9)", false, x.change(0, p, 9));
                due("change(1, " + p + ", 9)", false, x.change(1, p, 9));
            }
            due("change(1, 1, 9)", false, x.change(1, 1, 9));
            dueState(x, EMPTY, new int[] {1, 2}, new int[] {3});
        });
        test("3: change: .. p is no place of it: an empty document has none, nor an erased one", () -> {
            PhraseIndex x = written(new PhraseIndex(), 3, 1, 2);
            x.erase(3);
            for (int p = -1; p <= 24; p++) {
                due("change(3, " + p + ", 9)", false, x.change(3, p, 9));
            }
            due("change(0, 0, 0)", false, x.change(0, 0, 0));
            due("write behind it", 0, x.write(3, 5));
            dueState(x, EMPTY, EMPTY, EMPTY, EMPTY, new int[] {5});
        });
        test("3: change: .. p is no place of it: not past a full document into its neighbours", () -> {
            PhraseIndex x = written(written(new PhraseIndex(), 2, times(24, 1)), 3, times(24, 2));
            due("change(2, 24, 9)", false, x.change(2, 24, 9));
            due("change(3, -1, 9)", false, x.change(3, -1, 9));
            due("change(2, 0, 5)", true, x.change(2, 0, 5));
            due("change(2, 23, 6)", true, x.change(2, 23, 6));
            int[] changed = join(join(new int[] {5}, times(22, 1)), 6);
            dueState(x, EMPTY, EMPTY, EMPTY, changed, times(24, 2));
        });
        test("3: change: false, changing nothing, when w is not 0 .. 11", () -> {
            PhraseIndex x = written(new PhraseIndex(), 0, 1, 2);
            for (int w : NO_WORDS) {
                due("change(0, 1, " + w + ")", false, x.change(0, 1, w));
            }
            dueState(x, EMPTY, new int[] {1, 2});
            PhraseIndex y = written(new PhraseIndex(), 0, 1, 2);
            due("change(0, 0, 0)", true, y.change(0, 0, 0));
            due("change(0, 1, 11)", true, y.change(0, 1, 11));
            dueState(y, EMPTY, new int[] {0, 11});
        });
        test("4: erase: false when d is not 0 .. 5", () -> {
            PhraseIndex x = written(written(new PhraseIndex(), 0, 1, 2), 5, 3);
            for (int d : NO_DOCUMENTS) {
                due("erase(" + d + ")", false, x.erase(d));
            }
            dueState(x, EMPTY, new int[] {1, 2}, EMPTY, EMPTY, EMPTY, EMPTY, new int[] {3});
        });
        test("4: erase: makes document d empty and answers true: an empty and a full one, and no other", () -> {
            PhraseIndex x = written(written(new PhraseIndex(), 1, times(24, 8)), 2, 7);
            written(x, 0, 6);
            due("erase(1)", true, x.erase(1));
            due("erase(1) again", true, x.erase(1));
            due("erase(5), never written", true, x.erase(5));
            dueState(x, EMPTY, new int[] {6}, EMPTY, new int[] {7});
        });
        test("4: erase: the query stays", () -> {
            PhraseIndex x = asked(written(new PhraseIndex(), 0, 1), NOT, HAS, 1);
            due("matching()", 0b111110, x.matching());
            x.erase(0);
            due("matching() behind erase", 0b111111, x.matching());
            dueState(x, new int[] {NOT, HAS, 1});
        });
        test("5: length: NONE when d is not 0 .. 5", () -> {
            PhraseIndex x = written(written(new PhraseIndex(), 0, 1, 2), 5, 3);
            for (int d : NO_DOCUMENTS) {
                due("length(" + d + ")", NONE, x.length(d));
            }
            due("length(0)", 2, x.length(0));
            due("length(5)", 1, x.length(5));
        });
        test("5: length: the number of words: 0 of an empty document, 24 of a full one", () -> {
            PhraseIndex x = new PhraseIndex();
            for (int count = 0; count <= 24; count++) {
                due("length(5)", count, x.length(5));
                x.write(5, 0);
            }
            due("length(5) behind a refused write", 24, x.length(5));
            x.erase(5);
            due("length(5) behind erase", 0, x.length(5));
        });
    }

    private static void promises6To8() {
        test("6: ask: FULL when there are 12", () -> {
            int[] tokens = join(times(11, NOT), BOTH);
            PhraseIndex x = asked(new PhraseIndex(), tokens);
            for (int token = 0; token <= 24; token++) {
                due("ask(" + token + ") as the 13th", FULL, x.ask(token));
            }
            dueState(x, tokens);
        });
        test("6: ask: FULL when there are 12: 11 that are not complete take one more", () -> {
            PhraseIndex x = asked(new PhraseIndex(), times(11, EITHER));
            due("the 12th", 12, x.ask(HAS));
            due("the 13th", FULL, x.ask(0));
        });
        test("6: ask: FULL when the query is complete", () -> {
            PhraseIndex x = asked(new PhraseIndex(), HAS, 0);
            for (int token = 0; token <= 24; token++) {
                due("ask(" + token + ")", FULL, x.ask(token));
            }
            dueState(x, new int[] {HAS, 0});
        });
        test("6: ask: by the first that applies: FULL before NONE", () -> {
            PhraseIndex complete = asked(new PhraseIndex(), NOT, HAS, 3);
            PhraseIndex twelve = asked(new PhraseIndex(), times(12, NOT));
            PhraseIndex twelveSpans = asked(new PhraseIndex(), join(new int[] {HAS}, times(11, ONE_OF)));
            for (int token : NO_TOKENS) {
                due("ask(" + token + ") of a complete query", FULL, complete.ask(token));
                due("ask(" + token + ") of 12 tokens", FULL, twelve.ask(token));
            }
            due("ask(0), the wrong kind, of 12 tokens", FULL, twelve.ask(0));
            due("ask(HAS), the wrong kind, of 12 tokens", FULL, twelveSpans.ask(HAS));
        });
        test("6: ask: NONE when token is none of those above (0 .. 18 and 20 .. 23)", () -> {
            PhraseIndex x = new PhraseIndex();
            for (int token : NO_TOKENS) {
                due("ask(" + token + ") for a condition", NONE, x.ask(token));
            }
            asked(x, HAS);
            for (int token : NO_TOKENS) {
                due("ask(" + token + ") for a span expression", NONE, x.ask(token));
            }
            dueState(x, new int[] {HAS});
        });
        test("6: ask: 0 .. 18 and 20 .. 23: the least and the greatest of both are taken", () -> {
            int[] expressions = {0, 11, 12, 13, 17, 18};
            for (int token : expressions) {
                dueState(asked(new PhraseIndex(), HAS, token), new int[] {HAS, token});
            }
            for (int token = 20; token <= 23; token++) {
                dueState(asked(new PhraseIndex(), token), new int[] {token});
            }
        });
        test("6: ask: NONE for a condition where a span expression must come", () -> {
            int[][] queries = {{HAS}, {HAS, ONE_OF}, {HAS, THEN}, {HAS, THEN + 4}, {HAS, WITHIN}, {HAS, WITHIN, 0},
                {HAS, ONE_OF, ONE_OF, 0, 11}, {BOTH, HAS}, {BOTH, HAS, THEN, 1}, {BOTH, HAS, 0, NOT, HAS}};
            for (int[] query : queries) {
                PhraseIndex x = asked(new PhraseIndex(), query);
                for (int token = 20; token <= 23; token++) {
                    due("ask(" + token + ") behind " + Arrays.toString(query), NONE, x.ask(token));
                }
                dueState(x, query);
            }
        });
        test("6: ask: or the other way round", () -> {
            int[][] queries = {{}, {NOT}, {BOTH}, {EITHER}, {BOTH, HAS, 0}, {EITHER, HAS, THEN + 4, 0, 11},
                {BOTH, BOTH, HAS, 1, HAS, 2}, {EITHER, NOT, HAS, 11}, {NOT, NOT}};
            for (int[] query : queries) {
                PhraseIndex x = asked(new PhraseIndex(), query);
                for (int token = 0; token <= 18; token++) {
                    due("ask(" + token + ") behind " + Arrays.toString(query), NONE, x.ask(token));
                }
                dueState(x, query);
            }
        });
        test("6: ask: otherwise the number of tokens now: a refused one does not count", () -> {
            PhraseIndex x = new PhraseIndex();
            for (int count = 1; count <= 12; count++) {
                due("ask(0), refused", NONE, x.ask(0));
                due("ask(NOT)", count, x.ask(NOT));
            }
            x.unask();
            x.unask();
            due("ask behind two unasks", 11, x.ask(HAS));
        });
        test("7: unask: NONE when there is none", () -> {
            PhraseIndex x = new PhraseIndex();
            due("unask() of a new object", NONE, x.unask());
            due("unask() again", NONE, x.unask());
            x.ask(19);
            x.ask(0);
            due("unask() behind refused asks", NONE, x.unask());
            due("ask(HAS) behind it", 1, x.ask(HAS));
            due("unask()", HAS, x.unask());
            due("unask() of an emptied query", NONE, x.unask());
            due("hasTokens()", 0, x.hasTokens());
            due("complete()", false, x.complete());
            due("ask(NOT), the first", 1, x.ask(NOT));
        });
        test("7: unask: takes the last token away and answers it: of 12, down to the first", () -> {
            int[] tokens = {BOTH, EITHER, NOT, HAS, WITHIN, 11, THEN + 4, 0, ONE_OF, 0, 11, HAS};
            dueState(asked(new PhraseIndex(), tokens), tokens);
        });
        test("7: unask: word 0 is answered as 0", () -> {
            PhraseIndex x = asked(new PhraseIndex(), HAS, 0);
            due("unask()", 0, x.unask());
            due("hasTokens()", 1, x.hasTokens());
        });
        test("7: unask: a full or complete query takes a token again, of the kind that is due there", () -> {
            int[] tokens = {BOTH, NOT, HAS, ONE_OF, 1, THEN, 2, 3, EITHER, HAS, 4, HAS};
            for (int kept = 0; kept < tokens.length; kept++) {
                PhraseIndex x = asked(new PhraseIndex(), tokens);
                for (int i = tokens.length; i > kept; i--) {
                    x.unask();
                }
                boolean condition = tokens[kept] >= BOTH;
                due("the wrong kind as token " + kept, NONE, x.ask(condition ? 0 : HAS));
                due("the right kind as token " + kept, kept + 1, x.ask(condition ? HAS : 0));
            }
        });
        test("8: complete: unask opens a complete query, ask closes it", () -> {
            PhraseIndex x = asked(new PhraseIndex(), HAS, 5);
            due("complete()", true, x.complete());
            x.unask();
            due("complete() behind unask", false, x.complete());
            x.ask(HAS);
            due("complete() behind a refused ask", false, x.complete());
            x.ask(6);
            due("complete() behind ask", true, x.complete());
            x.ask(6);
            due("complete() behind FULL", true, x.complete());
        });
    }

    private static void promises9To13() {
        test("9: holds: whether the query is complete and holds: false when it is not complete", () -> {
            PhraseIndex x = written(new PhraseIndex(), 0, 1);
            due("holds(0) of no query", false, x.holds(0));
            int[] tokens = {EITHER, HAS, 1, NOT, HAS, 9};
            for (int token : tokens) {
                due("holds(0) before " + token, false, x.holds(0));
                x.ask(token);
            }
            due("holds(0)", true, x.holds(0));
            x.unask();
            due("holds(0) behind unask", false, x.holds(0));
        });
        test("9: holds: false when d is not 0 .. 5", () -> {
            PhraseIndex x = asked(new PhraseIndex(), NOT, HAS, 0);
            due("holds(0)", true, x.holds(0));
            due("holds(5)", true, x.holds(5));
            for (int d : NO_DOCUMENTS) {
                due("holds(" + d + ")", false, x.holds(d));
            }
        });
        test("10: matching: 0 when it is not complete", () -> {
            PhraseIndex x = written(new PhraseIndex(), 0, 1);
            int[] tokens = {EITHER, NOT, HAS, 9, HAS, 1};
            for (int token : tokens) {
                due("matching() before " + token, 0, x.matching());
                x.ask(token);
            }
            due("matching()", 0b111111, x.matching());
            x.unask();
            due("matching() behind unask", 0, x.matching());
        });
        test("10: matching: bit d for document d: none, the first, the last, all", () -> {
            due("none", 0, asked(new PhraseIndex(), HAS, 1).matching());
            due("the first", 1, asked(written(new PhraseIndex(), 0, 1), HAS, 1).matching());
            due("the last", 32, asked(written(new PhraseIndex(), 5, 1), HAS, 1).matching());
            due("all", 63, asked(new PhraseIndex(), NOT, HAS, 1).matching());
        });
        test("11: spans: NONE when the query is not complete", () -> dueNoneWhileOpen(x -> x.spans(0, 0)));
        test("11: spans: NONE when there is no such HAS", () -> {
            PhraseIndex x = fourHas();
            for (int k = 0; k < 4; k++) {
                due("spans(" + k + ", 0)", 4 - k, x.spans(k, 0));
            }
            for (int k : noHas()) {
                due("spans(" + k + ", 0)", NONE, x.spans(k, 0));
            }
        });
        test("11: spans: NONE when d is not 0 .. 5", () -> {
            PhraseIndex x = fourHas();
            due("spans(0, 5)", 1, x.spans(0, 5));
            for (int d : NO_DOCUMENTS) {
                due("spans(0, " + d + ")", NONE, x.spans(0, d));
            }
        });
        test("11: spans: the number of spans: 0, not NONE, when the expression has none", () -> {
            PhraseIndex x = fourHas();
            due("spans(1, 5)", 0, x.spans(1, 5));
            due("spans(0, 3) of an empty document", 0, x.spans(0, 3));
        });
        test("12: begins: NONE when there is none", () -> {
            PhraseIndex x = fourHas();
            due("begins(1, 5, 0)", NONE, x.begins(1, 5, 0));
            due("begins(0, 3, 0) of an empty document", NONE, x.begins(0, 3, 0));
        });
        test("12: begins: not below b: at b itself, but not one before", () -> {
            PhraseIndex x = asked(written(new PhraseIndex(), 0, 5, 1, 5, 5), HAS, 5);
            int[] want = {0, 2, 2, 3, NONE};
            for (int b = 0; b < want.length; b++) {
                due("begins(0, 0, " + b + ")", want[b], x.begins(0, 0, b));
            }
        });
        test("12: begins: or as in spans: NONE when the query is not complete",
            () -> dueNoneWhileOpen(x -> x.begins(0, 0, 0)));
        test("12: begins: or as in spans: NONE when there is no such HAS, or d is not 0 .. 5", () -> {
            PhraseIndex x = fourHas();
            due("begins(3, 0, 0)", 9, x.begins(3, 0, 0));
            due("begins(0, 5, 0)", 0, x.begins(0, 5, 0));
            for (int k : noHas()) {
                due("begins(" + k + ", 0, 0)", NONE, x.begins(k, 0, 0));
            }
            for (int d : NO_DOCUMENTS) {
                due("begins(0, " + d + ", 0)", NONE, x.begins(0, d, 0));
            }
        });
        test("13: ends: the least end of a span that begins at b: of two, the less", () -> {
            int[] either = {HAS, ONE_OF, THEN + 4, 1, 1, THEN + 1, 1, 1};
            PhraseIndex x = asked(written(new PhraseIndex(), 0, times(24, 1)), either);
            due("ends(0, 0, 0)", 1, x.ends(0, 0, 0));
            due("ends(0, 0, 22)", 23, x.ends(0, 0, 22));
            due("ends(0, 0, 23)", NONE, x.ends(0, 0, 23));
        });
        test("13: ends: NONE when there is none", () -> {
            PhraseIndex x = asked(written(new PhraseIndex(), 0, 5, 1, 5), HAS, 5);
            int[] want = {0, NONE, 2, NONE};
            for (int b = 0; b < want.length; b++) {
                due("ends(0, 0, " + b + ")", want[b], x.ends(0, 0, b));
            }
            due("ends(0, 0, 23), behind the document", NONE, x.ends(0, 0, 23));
            due("ends(0, 1, 0) of an empty document", NONE, x.ends(0, 1, 0));
        });
        test("13: ends: or as in spans: NONE when the query is not complete",
            () -> dueNoneWhileOpen(x -> x.ends(0, 0, 0)));
        test("13: ends: or as in spans: NONE when there is no such HAS, or d is not 0 .. 5", () -> {
            PhraseIndex x = fourHas();
            due("ends(3, 0, 9)", 9, x.ends(3, 0, 9));
            due("ends(0, 5, 0)", 0, x.ends(0, 5, 0));
            for (int k : noHas()) {
                due("ends(" + k + ", 0, 0)", NONE, x.ends(k, 0, 0));
            }
            for (int d : NO_DOCUMENTS) {
                due("ends(0, " + d + ", 0)", NONE, x.ends(0, d, 0));
            }
        });
    }

    /** As many HAS as 12 tokens can hold; in document 0 the k-th of them has 4 - k spans. */
    private static PhraseIndex fourHas() {
        PhraseIndex x = written(new PhraseIndex(), 0, 1, 1, 1, 1, 2, 2, 2, 3, 3, 4);
        written(x, 5, 1);
        return asked(x, NOT, BOTH, HAS, 1, EITHER, HAS, 2, BOTH, HAS, 3, HAS, 4);
    }

    private static int[] noHas() {
        return new int[] {-1, 4, -2, 5, 11, 12, 32, 1 << 29, LEAST, GREATEST};
    }

    private static void dueNoneWhileOpen(ToIntFunction<PhraseIndex> call) {
        PhraseIndex x = written(new PhraseIndex(), 0, 1);
        int[] tokens = {EITHER, HAS, 1, HAS, 1};
        for (int token : tokens) {
            due("the call before token " + token, NONE, call.applyAsInt(x));
            x.ask(token);
        }
        due("the query is complete and the call answers", true, call.applyAsInt(x) != NONE);
        x.unask();
        due("the call behind unask", NONE, call.applyAsInt(x));
    }

    private static void promises14To16() {
        test("14: having: 0 when w is not 0 .. 11", () -> {
            PhraseIndex x = written(written(new PhraseIndex(), 0, 0, 11), 5, 0);
            due("having(0)", 0b100001, x.having(0));
            due("having(11)", 0b000001, x.having(11));
            for (int w : NO_WORDS) {
                due("having(" + w + ")", 0, x.having(w));
            }
        });
        test("14: having: the documents that have word w: none and all; one place is enough", () -> {
            PhraseIndex x = new PhraseIndex();
            for (int d = 0; d < 6; d++) {
                written(x, d, join(times(23, 3), 4));
            }
            due("having(4)", 63, x.having(4));
            due("having(0)", 0, x.having(0));
            x.change(0, 23, 3);
            due("having(4) behind change", 62, x.having(4));
            x.erase(5);
            due("having(4) behind erase", 30, x.having(4));
        });
        test("15: frequency: 0 when w is not 0 .. 11", () -> {
            PhraseIndex x = written(written(new PhraseIndex(), 0, 0, 11), 5, 0);
            due("frequency(0)", 2, x.frequency(0));
            due("frequency(11)", 1, x.frequency(11));
            for (int w : NO_WORDS) {
                due("frequency(" + w + ")", 0, x.frequency(w));
            }
        });
        test("15: frequency: the number of places, in all documents: 0, and all 144", () -> {
            PhraseIndex x = new PhraseIndex();
            for (int d = 0; d < 6; d++) {
                written(x, d, times(24, 11));
            }
            due("frequency(11)", 144, x.frequency(11));
            due("frequency(0)", 0, x.frequency(0));
            x.erase(5);
            due("frequency(11) behind erase", 120, x.frequency(11));
        });
        test("16: hasTokens: the number of HAS tokens of the query: of every query, complete or not", () -> {
            PhraseIndex x = new PhraseIndex();
            int[] tokens = {BOTH, HAS, 1, BOTH, HAS, 2, BOTH, HAS, 3, BOTH, HAS, 4};
            for (int i = 0; i < tokens.length; i++) {
                due("hasTokens() before token " + i, (i + 1) / 3, x.hasTokens());
                x.ask(tokens[i]);
            }
            due("hasTokens() of 12 tokens, not complete", 4, x.hasTokens());
            due("hasTokens() of a complete query", 4, fourHas().hasTokens());
        });
        test("16: hasTokens: a refused HAS is none of them, nor one that is taken away", () -> {
            PhraseIndex x = asked(new PhraseIndex(), HAS);
            x.ask(HAS);
            due("hasTokens() behind a HAS of the wrong kind", 1, x.hasTokens());
            x.ask(0);
            x.ask(HAS);
            due("hasTokens() behind FULL", 1, x.hasTokens());
            x.unask();
            due("hasTokens() without the word", 1, x.hasTokens());
            x.unask();
            due("hasTokens() without HAS", 0, x.hasTokens());
        });
    }

    private static void promise17() {
        test("17: write: NONE is tested before FULL", () -> {
            PhraseIndex x = new PhraseIndex();
            for (int d = 0; d < 6; d++) {
                written(x, d, times(24, 2));
            }
            for (int d = 0; d < 6; d++) {
                due("write(" + d + ", 2)", FULL, x.write(d, 2));
                for (int w : NO_WORDS) {
                    due("write(" + d + ", " + w + ")", NONE, x.write(d, w));
                }
            }
            for (int d : NO_DOCUMENTS) {
                due("write(" + d + ", 2)", NONE, x.write(d, 2));
            }
        });
        test("17: begins takes any b (below 0: all places count)", () -> {
            int[] words = join(join(new int[] {5}, times(22, 0)), 5);
            PhraseIndex x = asked(written(new PhraseIndex(), 5, words), HAS, 5);
            int[] below = {-1, -2, -23, -24, -25, -(1 << 29), LEAST + 1, LEAST};
            for (int b : below) {
                due("begins(0, 5, " + b + ")", 0, x.begins(0, 5, b));
            }
            due("begins(0, 5, 0)", 0, x.begins(0, 5, 0));
            due("begins(0, 5, 1)", 23, x.begins(0, 5, 1));
            due("begins(0, 5, 23)", 23, x.begins(0, 5, 23));
        });
        test("17: begins takes any b: none is left from 24 on", () -> {
            PhraseIndex x = asked(written(new PhraseIndex(), 0, times(24, 5)), BOTH, HAS, 5, HAS, 5);
            written(x, 1, times(24, 5));
            int[] above = {24, 25, 47, 48, 1 << 29, GREATEST - 1, GREATEST};
            for (int b : above) {
                due("begins(0, 0, " + b + ")", NONE, x.begins(0, 0, b));
                due("begins(1, 0, " + b + ")", NONE, x.begins(1, 0, b));
            }
        });
        test("17: ends answers NONE also when b is no place from 0 to 23", () -> {
            PhraseIndex x = asked(written(new PhraseIndex(), 0, times(24, 5)), BOTH, HAS, 5, HAS, 5);
            due("ends(0, 0, 0)", 0, x.ends(0, 0, 0));
            due("ends(0, 0, 23)", 23, x.ends(0, 0, 23));
            for (int b : NO_PLACES) {
                due("ends(0, 0, " + b + ")", NONE, x.ends(0, 0, b));
                due("ends(1, 0, " + b + ")", NONE, x.ends(1, 0, b));
            }
        });
        test("17: ends answers NONE also when b is no place: not a span of an operand, nor past 12 tokens", () -> {
            PhraseIndex x = asked(written(new PhraseIndex(), 0, times(24, 5)), HAS, ONE_OF, 5, 5);
            PhraseIndex y = asked(written(new PhraseIndex(), 0, times(24, 5)), join(times(10, NOT), HAS, 5));
            for (int b : NO_PLACES) {
                due("ends(0, 0, " + b + ") of ONE_OF", NONE, x.ends(0, 0, b));
                due("ends(0, 0, " + b + ") of the 12th token", NONE, y.ends(0, 0, b));
                due("begins(0, 0, " + b + ") of ONE_OF", b < 0 ? 0 : NONE, x.begins(0, 0, b));
                due("begins(0, 0, " + b + ") of the 12th token", b < 0 ? 0 : NONE, y.begins(0, 0, b));
            }
        });
        test("17: spans: each pair (b, e) is one span, however often it comes about: ONE_OF", () -> {
            PhraseIndex twice = asked(written(new PhraseIndex(), 0, times(24, 7)), HAS, ONE_OF, 7, 7);
            due("spans(0, 0) of twice the same", 24, twice.spans(0, 0));
            PhraseIndex thrice = asked(written(new PhraseIndex(), 0, times(24, 7)), HAS, ONE_OF, 7, ONE_OF, 7, 7);
            due("spans(0, 0) of thrice the same", 24, thrice.spans(0, 0));
        });
        test("17: spans: each pair (b, e) is one span, however often it comes about: THEN", () -> {
            // Both parts reach 0 or 1 on, so the pairs (b, b + 3) come about in two ways.
            int[] tokens = {HAS, THEN + 2, ONE_OF, 7, THEN + 1, 7, 7, ONE_OF, 7, THEN + 1, 7, 7};
            PhraseIndex x = asked(written(new PhraseIndex(), 0, times(24, 7)), tokens);
            due("spans(0, 0)", 22 + 21 + 20, x.spans(0, 0));
        });
        test("17: spans: each pair (b, e) is one span, however often it comes about: WITHIN", () -> {
            int[] tokens = {HAS, WITHIN, 7, ONE_OF, THEN + 4, 7, 7, THEN + 3, 7, 7};
            PhraseIndex x = asked(written(new PhraseIndex(), 0, times(24, 7)), tokens);
            due("spans(0, 0)", 24, x.spans(0, 0));
        });
        test("17: spans: pairs of one b with different ends are different spans", () -> {
            int[] tokens = {HAS, ONE_OF, 7, ONE_OF, THEN + 1, 7, 7, THEN + 4, 7, 7};
            PhraseIndex x = asked(written(new PhraseIndex(), 0, times(24, 7)), tokens);
            due("spans(0, 0)", 24 + 23 + 20, x.spans(0, 0));
        });
    }
}
