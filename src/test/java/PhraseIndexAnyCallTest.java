import java.lang.reflect.Method;
import java.util.Arrays;

/**
 * Rule 7 of LANGUAGE.md: no call throws or fails to end, for any arguments in any state.
 * Goes through every form that a query of at most 12 tokens can have, complete or not, and
 * makes each call there with arguments from the least int to the greatest. Evaluating is tried
 * in each form too, though the class does it for complete queries alone: its indexes must not
 * rest on that.
 */
public final class PhraseIndexAnyCallTest {
    private static final int[] ANY = {Integer.MIN_VALUE, -1, 0, 3, 5, 6, 11, 12, 19, 23, 24, Integer.MAX_VALUE};
    private static final int NOT = 22;
    private static final int HAS = 23;

    private static final Method EVALUATE = evaluate();
    private static final int[] tokens = new int[12];
    private static int states = 0;
    private static int completeStates = 0;
    private static int wrong = 0;

    public static void main(String[] args) {
        visit(0, 0, 1);
        System.out.println(states + " forms of the query, " + completeStates + " of them complete, "
            + wrong + " with a wrong answer or a throw");
        if (wrong != 0 || completeStates == 0) {
            System.exit(1);
        }
    }

    /** One token stands for all of its kind; the operator changes from place to place. */
    private static void visit(int count, int spansDue, int conditionsDue) {
        boolean complete = spansDue == 0 && conditionsDue == 0;
        states++;
        completeStates += complete ? 1 : 0;
        tryAll(count, complete);
        if (count == tokens.length || complete) {
            return;
        }
        if (spansDue > 0) {
            tokens[count] = count % 2;
            visit(count + 1, spansDue - 1, conditionsDue);
            tokens[count] = 12 + count % 7;
            visit(count + 1, spansDue + 1, conditionsDue);
        } else {
            tokens[count] = HAS;
            visit(count + 1, 1, conditionsDue - 1);
            tokens[count] = NOT;
            visit(count + 1, 0, conditionsDue);
            tokens[count] = 20 + count % 2;
            visit(count + 1, 0, conditionsDue + 1);
        }
    }

    private static void tryAll(int count, boolean complete) {
        try {
            PhraseIndex x = new PhraseIndex();
            for (int p = 0; p < 24; p++) {
                x.write(5, p % 2);
            }
            x.write(0, 1);
            for (int i = 0; i < count; i++) {
                due(count, x.ask(tokens[i]) == i + 1);
            }
            due(count, x.complete() == complete);
            read(x);
            EVALUATE.invoke(x, 5);
            change(x);
        } catch (RuntimeException | ReflectiveOperationException thrown) {
            wrong++;
            Throwable cause = thrown.getCause() == null ? thrown : thrown.getCause();
            System.out.println(Arrays.toString(Arrays.copyOf(tokens, count)) + " threw " + cause);
        }
    }

    private static Method evaluate() {
        try {
            Method evaluate = PhraseIndex.class.getDeclaredMethod("evaluate", int.class);
            evaluate.setAccessible(true);
            return evaluate;
        } catch (NoSuchMethodException e) {
            throw new IllegalStateException("the class evaluates in another way: try that here", e);
        }
    }

    private static void due(int count, boolean asDue) {
        if (!asDue) {
            wrong++;
            System.out.println(Arrays.toString(Arrays.copyOf(tokens, count)) + ": a wrong answer");
        }
    }

    private static void read(PhraseIndex x) {
        x.matching();
        x.hasTokens();
        for (int any : ANY) {
            x.length(any);
            x.holds(any);
            x.having(any);
            x.frequency(any);
            x.spans(any, any);
            x.spans(any, 5);
            x.spans(0, any);
            x.begins(any, any, any);
            x.begins(any, 5, 0);
            x.begins(0, any, 0);
            x.begins(0, 5, any);
            x.ends(any, any, any);
            x.ends(any, 5, 0);
            x.ends(0, any, 0);
            x.ends(0, 5, any);
        }
    }

    private static void change(PhraseIndex x) {
        for (int any : ANY) {
            x.write(any, any);
            x.write(any, 0);
            x.write(5, any);
            x.change(any, any, any);
            x.change(any, 0, 0);
            x.change(5, any, 0);
            x.change(5, 0, any);
            x.ask(any);
        }
        x.matching();
        for (int any : ANY) {
            x.erase(any);
        }
        x.matching();
        for (int i = 0; i < 14; i++) {
            x.unask();
            x.spans(0, 5);
        }
    }
}
