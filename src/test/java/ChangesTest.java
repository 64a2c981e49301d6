import java.lang.reflect.Method;
import java.util.ArrayList;
import java.util.Arrays;
import java.util.LinkedHashMap;
import java.util.List;
import java.util.Map;
import java.util.Set;
import java.util.function.Supplier;
import java.util.function.ToIntFunction;

/** What the calls of promises 2 to 13 change, that all else stays, and what each term counts for. */
public final class ChangesTest {
    private static final int NONE = Sentences.NONE;
    private static final int REFUSED = Sentences.REFUSED;
    private static final int MOST_ITEMS = 8;
    private static final int[] ODD = {NONE, 0, 1, 2, 3, 4, 201, 600};
    private static final Set<String> CHANGING = Set.of("feed", "text", "terms", "add", "post", "audit", "forget",
        "interval", "plan", "draw", "clear");

    public static void main(String[] args) {
        Sentences.run(ChangesTest.class);
    }

    /** The ledger with audits, an interval, other terms, an earlier fault, a tape, s moved on; 0 or 2 runs. */
    private static CoinSampler busy(int runs) {
        CoinSampler x = Checks.audited(0);
        int[] terms = {777, 60, 3, 1, 99};
        for (int what = 0; what < terms.length; what++) {
            x.terms(what, terms[what]);
        }
        Checks.tell(x, "item 1 20000 3;");
        x.draw();
        x.clear();
        Checks.feed(x, "item 1 2 3;");
        for (int r = 0; r < runs; r++) {
            x.draw();
        }
        Sentences.due("interval", x.count(3), 600);
        Sentences.due("s", x.count(9), runs == 0 ? 121_542 : 276_312);
        Sentences.due("fault", x.fault(0), 2);
        Sentences.due("its place", x.fault(1), 7);
        Sentences.due("audited", x.item(0, 3), 900);
        return x;
    }

    private static Map<String, Integer> told(CoinSampler x) {
        Map<String, Integer> told = new LinkedHashMap<>();
        for (int what : new int[] {0, 3, 4, 7, 9, 10, 11, 12, 13, 14}) {
            told.put("count " + what, x.count(what));
        }
        told.put("fault", x.fault(0));
        told.put("place", x.fault(1));
        for (int r = 0; r < 5; r++) {
            told.put("start " + r, x.start(r));
        }
        for (int i = 0; i < MOST_ITEMS; i++) {
            told.put("account of " + i, x.item(i, 0));
            told.put("voucher of " + i, x.item(i, 1));
            told.put("book of " + i, x.item(i, 2));
            told.put("audited of " + i, x.item(i, 3));
        }
        return told;
    }

    /** A call that answers so, behind which that which is due is so, and all else is as it was. */
    private static void changes(CoinSampler x, String call, ToIntFunction<CoinSampler> ask, int answer,
            Map<String, Integer> due) {
        Map<String, Integer> expected = told(x);
        Sentences.due(call, ask.applyAsInt(x), answer);
        expected.putAll(due);
        Sentences.same("what is there behind " + call, told(x), expected);
    }

    /** So many arguments, the last two of them every mix of odd numbers. */
    private static List<int[]> mixes(int count) {
        List<int[]> mixes = new ArrayList<>();
        int varied = Math.min(2, count);
        for (int mix = 0; mix < Math.pow(ODD.length, varied); mix++) {
            int[] args = new int[count];
            Arrays.fill(args, 601);
            for (int i = 0; i < varied; i++) {
                args[count - 1 - i] = ODD[(i == 0 ? mix : mix / ODD.length) % ODD.length];
            }
            mixes.add(args);
        }
        return mixes;
    }

    @Says("ON PAPER nothing changes.")
    static void terms3_onPaper_nothingChanges_whateverIsAsked() {
        for (Method method : Face.METHODS) {
            if (!CHANGING.contains(method.getName())) {
                for (int[] args : mixes(method.getParameterCount())) {
                    CoinSampler x = busy(2);
                    Map<String, Integer> before = told(x);
                    Face.answer(x, method.getName(), args);
                    Sentences.same("what is there behind " + method.getName() + Arrays.toString(args), told(x), before);
                }
            }
        }
    }

    /** What all calls answer that change nothing, by name and arguments, each of a new object. */
    private static Map<String, Integer> answers(Supplier<CoinSampler> made) {
        Map<String, Integer> answers = new LinkedHashMap<>();
        for (Method method : Face.METHODS) {
            if (!CHANGING.contains(method.getName())) {
                CoinSampler x = made.get();
                for (int[] args : mixes(method.getParameterCount())) {
                    answers.put(method.getName() + Arrays.toString(args), Face.answer(x, method.getName(), args));
                }
            }
        }
        return answers;
    }

    /** By another TERM only those answers are others that it counts for. */
    private static void countsFor(int term, int v, String names) {
        Map<String, Integer> before = answers(() -> Checks.audited(3));
        Map<String, Integer> after = answers(() -> {
            CoinSampler x = Checks.audited(3);
            x.terms(term, v);
            return x;
        });
        before.keySet().removeIf(call -> call.matches(names));
        after.keySet().removeIf(call -> call.matches(names));
        Sentences.same("what term " + term + " doesn't count for", after, before);
    }

    @Says("TERMS (least to greatest; at first):")
    static void terms1_terms_whatEachCountsFor() {
        String accepted = "judged.*|more.*|step.*, 2]|risky.*";
        String bounds = "bound.[34]]|below.3]|would.*|dearest.*|step.*, 1]";
        countsFor(0, 600, accepted + "|bound.4]|sizes.*");
        countsFor(1, 77, accepted + "|" + bounds + "|bound.*|below.*|taint.*, 2]|upper.*|size.*");
        countsFor(2, 4, "size\\[.*");
        countsFor(3, 1, accepted + "|" + bounds);
        countsFor(4, 5, "none");
    }

    @Says("Twenty bytes come behind those on THE TAPE,")
    static void promise2_changesTheTapeAlone() {
        changes(busy(2), "feed", x -> x.feed(1, 2, 3, 4, 5), 40, Map.of("count 7", 40));
    }

    @Says({"The first n bytes of THE TAPE (which is empty then) are THE LEDGER",
        "(INTERVAL is 0, there are no RUNS, s is SEED then; TERMS stay)"})
    static void promise3_changesAllButTheTerms() {
        Map<String, Integer> due = new LinkedHashMap<>(Map.of("count 0", 1, "count 3", 0, "count 4", 0, "count 7", 0,
            "count 9", 99, "fault", 0, "place", NONE, "start 0", -2, "start 1", -2));
        for (int i = 0; i < MOST_ITEMS; i++) {
            for (String what : new String[] {"account", "voucher", "book", "audited"}) {
                due.put(what + " of " + i, REFUSED);
            }
        }
        due.putAll(Map.of("account of 0", 1, "voucher of 0", 2, "book of 0", 3, "audited of 0", NONE));
        changes(busy(2), "text", x -> x.text(11), 1, due);
    }

    @Says("a FAULT.")
    static void promise3_ofAFault_changesTheTapeAlone() {
        changes(busy(2), "text", x -> x.text(10), -31, Map.of("count 7", 0, "fault", 1, "place", 10));
        changes(busy(0), "text", x -> x.text(6), -31, Map.of("count 7", 0, "fault", 1, "place", 6));
    }

    @Says("A TERM: what it was.")
    static void promise5_changesThatTermAlone_andSBySeed() {
        changes(busy(2), "terms", x -> x.terms(0, 5), 777, Map.of("count 10", 5));
        changes(busy(2), "terms", x -> x.terms(1, 6), 60, Map.of("count 11", 6));
        changes(busy(2), "terms", x -> x.terms(2, 7), 3, Map.of("count 12", 7));
        changes(busy(2), "terms", x -> x.terms(3, 0), 1, Map.of("count 13", 0));
        changes(busy(2), "terms", x -> x.terms(4, 8), 99, Map.of("count 14", 8, "count 9", 8));
        changes(busy(2), "terms", x -> x.terms(4, 99), 99, Map.of("count 9", 99));
    }

    @Says("An ITEM more, as the last one:")
    static void promise6_changesTheLastItemAlone() {
        changes(busy(0), "add", x -> x.add(9, 8, 7), 7, Map.of("count 0", 8, "account of 7", 9, "voucher of 7", 8,
            "book of 7", 7, "audited of 7", NONE));
    }

    @Says("BOOK of an ITEM becomes v (it isn't AUDITED any more):")
    static void promise7_changesThatItemAlone() {
        changes(busy(0), "post", x -> x.post(1, 30), 300, Map.of("book of 1", 30, "audited of 1", NONE));
        changes(busy(0), "post", x -> x.post(1, 300), 300, Map.of("audited of 1", NONE));
        changes(busy(0), "post", x -> x.post(3, 200), -200, Map.of("book of 3", 200));
        changes(busy(0), "post", x -> x.post(2, 500), 500, Map.of());
    }

    @Says("AUDITED: what it was before")
    static void promise8_changesThatItemAlone() {
        changes(busy(2), "audit", x -> x.audit(1, 5), 240, Map.of("audited of 1", 5));
        changes(busy(0), "audit", x -> x.audit(2, 6), NONE, Map.of("audited of 2", 6));
    }

    @Says("An ITEM isn't AUDITED any more:")
    static void promise9_changesThatItemAlone() {
        changes(busy(2), "forget", x -> x.forget(1), 240, Map.of("audited of 1", NONE));
        changes(busy(0), "forget", x -> x.forget(2), NONE, Map.of());
    }

    @Says("INTERVAL is told")
    static void promise10_changesTheIntervalAlone() {
        changes(busy(0), "interval", x -> x.interval(400), 3, Map.of("count 3", 400));
        changes(busy(0), "interval", x -> x.interval(600), 2, Map.of());
    }

    @Says("INTERVAL becomes all COINS by SIZE (of TOLERABLE), cut,")
    static void promise11_changesTheIntervalAlone() {
        int size = busy(0).size(777);
        changes(busy(0), "plan", CoinSampler::plan, size, Map.of("count 3", 2_590 / size));
    }

    @Says("A RUN more is DRAWN: its START.")
    static void promise12_changesTheRunsAndS() {
        changes(busy(0), "the first", CoinSampler::draw, 170, Map.of("count 4", 1, "count 9", 72_769, "start 0", 170));
        changes(busy(2), "the third", CoinSampler::draw, 570, Map.of("count 4", 3, "count 9", 783_569, "start 2", 570));
    }

    @Says("There are no RUNS (INTERVAL, AUDITED, s stay):")
    static void promise13_changesTheRunsAlone() {
        changes(busy(2), "clear", CoinSampler::clear, 2, Map.of("count 4", 0, "start 0", -2, "start 1", -2));
        changes(busy(0), "clear", CoinSampler::clear, 0, Map.of());
    }
}
