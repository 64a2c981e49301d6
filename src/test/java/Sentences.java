import java.lang.reflect.InvocationTargetException;
import java.lang.reflect.Method;
import java.util.ArrayList;
import java.util.Arrays;
import java.util.Comparator;
import java.util.List;
import java.util.function.Supplier;
import java.util.function.ToIntFunction;

/** Runs the tests of single sentences of the document, each by its own name. */
final class Sentences {
    static final int NONE = -1;
    static final int REFUSED = -10_000_000;

    private static int checked = 0;
    private static int wrongOfSentence = 0;
    private static String sentence = "";

    private Sentences() { }

    /** Runs the tests of single sentences by their names. */
    public static void main(String[] names) {
        int missing = names.length;
        int broken = 0;
        for (Class<?> tests : DocumentTest.TESTS) {
            for (Method test : testsOf(tests)) {
                if (Arrays.asList(names).contains(test.getName())) {
                    missing--;
                    broken += holds(test) ? 0 : 1;
                }
            }
        }
        System.out.println(names.length + " sentences, " + missing + " of them unknown, " + broken + " broken, "
            + checked + " answers");
        System.exit(missing == 0 && broken == 0 ? 0 : 1);
    }

    static List<Method> testsOf(Class<?> tests) {
        return Arrays.stream(tests.getDeclaredMethods()).filter(m -> m.isAnnotationPresent(Says.class))
            .sorted(Comparator.comparing(Method::getName)).toList();
    }

    static void run(Class<?> tests) {
        List<Method> all = testsOf(tests);
        int broken = 0;
        for (Method test : all) {
            if (!holds(test)) {
                broken++;
            }
        }
        System.out.println(tests.getName() + ": " + all.size() + " sentences, " + broken + " of them broken, "
            + checked + " answers");
        System.exit(broken == 0 ? 0 : 1);
    }

    /** Whether a test finds all answers as they are due. */
    static boolean holds(Method test) {
        sentence = test.getName();
        wrongOfSentence = 0;
        try {
            test.setAccessible(true);
            test.invoke(null);
        } catch (InvocationTargetException e) {
            found(e.getCause() + " was thrown");
        } catch (IllegalAccessException e) {
            throw new IllegalStateException(e);
        }
        return wrongOfSentence == 0;
    }

    // The first few of a sentence are told.
    private static void found(String wrong) {
        wrongOfSentence++;
        if (wrongOfSentence <= 5) {
            System.out.println(sentence + ": " + wrong);
        }
    }

    static void due(String call, long got, long due) {
        checked++;
        if (got != due) {
            found(call + " answered " + got + ", due is " + due);
        }
    }

    static void same(String what, Object got, Object due) {
        checked++;
        if (!got.equals(due)) {
            found(what + " is " + got + ", due is " + due);
        }
    }

    /** A call that answers so and changes nothing: a refused one, or one on paper. */
    static void keeps(Supplier<CoinSampler> made, String call, ToIntFunction<CoinSampler> ask, int due) {
        CoinSampler x = made.get();
        List<Integer> before = stateOf(x);
        due(call, ask.applyAsInt(x), due);
        same("what is there behind " + call, stateOf(x), before);
    }

    /** What an object tells of itself, by some 150 calls for a small ledger, some 300 for a full one. */
    static List<Integer> stateOf(CoinSampler x) {
        List<Integer> state = new ArrayList<>();
        for (int what = 0; what < 15; what++) {
            state.add(x.count(what));
        }
        state.add(x.fault(0));
        state.add(x.fault(1));
        int items = x.count(0);
        for (int i = 0; i < items; i++) {
            for (int what = items > 12 ? 2 : 0; what < (items > 12 ? 4 : 9); what++) {
                state.add(x.item(i, what));
            }
        }
        int hits = Math.min(12, x.count(5));
        for (int k = 0; k < hits; k++) {
            for (int what = 0; what < 4; what++) {
                state.add(x.hit(k, what));
            }
        }
        for (int r = 0; r < x.count(4); r++) {
            state.add(x.start(r));
        }
        state.add(x.bound(3));
        state.add(x.below(3));
        return state;
    }

    /** 48 items of the same account, item i of BOOK 9 and i. */
    static CoinSampler full() {
        CoinSampler x = new CoinSampler();
        for (int i = 0; i < 48; i++) {
            x.add(1, i, 9 + i);
        }
        return x;
    }

    /** One item of so many coins, an interval and a seed. */
    static CoinSampler single(int book, int interval, int seed) {
        CoinSampler x = new CoinSampler();
        x.add(1, 1, book);
        x.interval(interval);
        x.terms(4, seed);
        return x;
    }

    static String items(int howMany) {
        StringBuilder text = new StringBuilder();
        for (int i = 0; i < howMany; i++) {
            text.append("item 1 ").append(i).append(" 9;");
        }
        return text.toString();
    }

    /** A text that has just this fault at this place, and leaves the ledger empty. */
    static void faulty(String text, int fault, int place) {
        CoinSampler x = new CoinSampler();
        due("text(" + text + ")", Checks.tell(x, text), -30 - fault);
        due("fault(0) of " + text, x.fault(0), fault);
        due("fault(1) of " + text, x.fault(1), place);
        due("items of " + text, x.count(0), 0);
    }

    static void fine(String text, int items) {
        CoinSampler x = new CoinSampler();
        due("text(" + text + ")", Checks.tell(x, text), items);
        due("fault(0) of " + text, x.fault(0), 0);
        due("fault(1) of " + text, x.fault(1), NONE);
    }
}
