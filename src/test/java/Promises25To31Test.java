import java.util.function.Supplier;
import java.util.function.ToIntFunction;

/** Promises 25 to 31, sentence by sentence: upper bounds, sizes, what the hits make for all, the judgement. */
public final class Promises25To31Test {
    private static final int NONE = Sentences.NONE;
    private static final int REFUSED = Sentences.REFUSED;

    public static void main(String[] args) {
        Sentences.run(Promises25To31Test.class);
    }

    private static void due(String call, long got, long due) {
        Sentences.due(call, got, due);
    }

    private static void keeps(Supplier<CoinSampler> made, String call, ToIntFunction<CoinSampler> ask, int due) {
        Sentences.keeps(made, call, ask, due);
    }

    private static CoinSampler audited1() {
        return Checks.audited(1);
    }

    private static CoinSampler noRun() {
        return Checks.audited(0);
    }

    /** What each value of what answers, those beyond, and all of them without a run. */
    private static void whats(String name, int beyond, int... due) {
        CoinSampler x = audited1();
        for (int what = 0; what < due.length; what++) {
            due(name + "(" + what + ")", Face.answer(x, name, what), due[what]);
        }
        due("how many there are", due.length, beyond);
    }

    private static void refused(String name, int beyond) {
        for (int what : new int[] {-1, beyond, Integer.MIN_VALUE, Integer.MAX_VALUE}) {
            keeps(Promises25To31Test::audited1, name + "(" + what + ")", x -> Face.answer(x, name, what), REFUSED);
        }
    }

    private static void refusedWithoutARun(String name, int beyond) {
        for (int what = 0; what < beyond; what++) {
            int told = what;
            keeps(Promises25To31Test::noRun, name + "(" + what + ")", x -> Face.answer(x, name, told), REFUSED);
        }
        keeps(Checks::ledger, "no interval", x -> Face.answer(x, name, 0), REFUSED);
        CoinSampler x = audited1();
        x.clear();
        due("cleared", Face.answer(x, name, 0), REFUSED);
    }

    // ---- promise 25

    @Says("UPPER.")
    static void promise25_ofTheLeastAndTheGreatest() {
        CoinSampler x = new CoinSampler();
        due("the least n and k", x.upper(0, 0), 1_000_000);
        due("the greatest n", x.upper(400, 0), 7_462);
        due("the greatest k", x.upper(0, 400), 1_000_000);
        due("the greatest of both", x.upper(400, 400), 1_000_000);
        due("the greatest k below the greatest n", x.upper(400, 399), 844_738);
        due("without a run, an interval, coins", x.upper(2, 1), 974_680);
        x.terms(1, 500);
        due("by the risk as it is", x.upper(2, 1), 707_107);
    }

    @Says("-3: n isn't 0 to 400,")
    static void promise25_minus3_nIsnt0To400() {
        for (int n : new int[] {-1, 401, Integer.MIN_VALUE, Integer.MAX_VALUE}) {
            keeps(Promises25To31Test::audited1, "upper(" + n + ", 0)", x -> x.upper(n, 0), -3);
        }
    }

    @Says("k isn't 0 to 400.")
    static void promise25_minus3_kIsnt0To400() {
        for (int k : new int[] {-1, 401, Integer.MIN_VALUE, Integer.MAX_VALUE}) {
            keeps(Promises25To31Test::audited1, "upper(400, " + k + ")", x -> x.upper(400, k), -3);
            keeps(Promises25To31Test::audited1, "upper(0, " + k + ")", x -> x.upper(0, k), -3);
        }
    }

    // ---- promise 26

    @Says("SIZE by a TOLERABLE.")
    static void promise26_byATolerable() {
        CoinSampler x = Checks.ledger();
        x.terms(0, 1);
        due("not by the term", x.size(2_010), 2);
        due("the least tolerable that has one", x.size(19), 387);
        x.terms(2, 1);
        due("by EXPECT", x.size(2_010), 4);
        x.terms(1, 500);
        due("by RISK", x.size(2_010), 2);
        CoinSampler one = Sentences.single(1, 5, 7);
        due("the least tolerable", one.size(1), 1);
        due("the greatest tolerable", one.size(9_999_999), 1);
        due("with runs", Checks.sampled(2).size(2_009), 3);
    }

    @Says("NONE: none up to 400;")
    static void promise26_none_upTo400() {
        keeps(Checks::ledger, "size", x -> x.size(18), NONE);
        CoinSampler x = Sentences.single(99_999, 1, 7);
        due("400", x.size(746), 400);
        due("401 would do", x.size(745), NONE);
    }

    @Says("-3;")
    static void promise26_minus3_noSuchTolerable() {
        for (int tolerable : new int[] {0, -1, 10_000_000, Integer.MIN_VALUE, Integer.MAX_VALUE}) {
            keeps(Promises25To31Test::audited1, "size(" + tolerable + ")", x -> x.size(tolerable), -3);
        }
    }

    @Says("-5: there are no COINS.")
    static void promise26_minus5_noCoins() {
        keeps(CoinSampler::new, "no item", x -> x.size(1), -5);
        CoinSampler x = new CoinSampler();
        x.add(1, 1, -5);
        x.add(1, 2, 0);
        due("no coin", x.size(1), -5);
        x.post(1, 1);
        due("one coin", x.size(1), 1);
    }

    // ---- promise 27

    @Says("PROJECTED OVER (0), UNDER (1), KNOWN OVER (2), UNDER (3), 4: OVER of both less UNDER of both.")
    static void promise27_overUnderBoth() {
        whats("projected", 5, 120, 60, 100, 50, 110);
        CoinSampler x = Checks.sampled(1);
        x.audit(5, 1_400);
        x.audit(6, 180);
        due("it may be below 0", x.projected(4), -1_300);
    }

    @Says("-10,000,000: what,")
    static void promise27_refused_what() {
        refused("projected", 5);
    }

    @Says("no RUN.")
    static void promise27_refused_noRun() {
        refusedWithoutARun("projected", 5);
    }

    // ---- promise 28

    /** Two runs that hit items 1, 6 and 2, with these taints: hits 0, 1 and 2. */
    private static CoinSampler taints(int one, int six, int two) {
        CoinSampler x = Checks.sampled(2);
        x.audit(1, 300 - one * 300 / 10_000);
        x.audit(6, 90 - six * 90 / 10_000);
        x.audit(2, 500 - two * 500 / 10_000);
        return x;
    }

    private static void ranked(CoinSampler x, int... hits) {
        for (int k = 0; k < hits.length; k++) {
            due("taint(" + k + ", 0)", x.taint(k, 0), hits[k]);
        }
        due("behind the last", x.taint(hits.length, 0), -2);
    }

    @Says("The k-th TAINT above 0 of all HITS (from 0),")
    static void promise28_aboveNoughtOfAllHits() {
        ranked(taints(2_000, -1_000, 0), 0);
        ranked(taints(-2_000, 1_000, 0), 1);
        ranked(taints(0, 0, 0));
        ranked(taints(10_000, 10_000, 10_000), 0, 1, 2);
        CoinSampler certain = Checks.sampled(1);
        certain.audit(0, 0);
        ranked(certain);
        CoinSampler least = Sentences.single(10_000, 10_001, 7);
        least.draw();
        for (int audited : new int[] {9_999, 10_000, 10_001}) {
            least.audit(0, audited);
            due("a taint of " + (10_000 - audited), least.taint(0, 1), audited < 10_000 ? 1 : -2);
        }
        CoinSampler none = Sentences.single(20_000, 20_001, 7);
        none.draw();
        none.audit(0, 19_999);
        due("a hit", none.count(5), 1);
        due("an error that makes no taint", none.item(0, 4), 1);
        ranked(none);
    }

    @Says("the greatest first (of like ones that of the lower HIT),")
    static void promise28_theGreatestFirst_ofLikeOnesTheLowerHit() {
        ranked(taints(1_000, 2_000, 3_000), 2, 1, 0);
        ranked(taints(3_000, 1_000, 2_000), 0, 2, 1);
        ranked(taints(2_000, 2_000, 2_000), 0, 1, 2);
        ranked(taints(2_000, 3_000, 2_000), 1, 0, 2);
        CoinSampler x = Checks.sampled(3);
        x.audit(2, 0);
        ranked(x, 2, 3);
    }

    @Says("what 0 the HIT, 1 TAINT, 2 its RISE.")
    static void promise28_theHitItsTaintItsRise() {
        CoinSampler x = taints(1_000, 2_000, 4_000);
        // 890 by 0.233053, 0.118398, 0.016952: 207.41.., 105.37.., 15.08.. of a whole taint.
        int[][] due = {{2, 4_000, 82}, {1, 2_000, 21}, {0, 1_000, 1}};
        for (int k = 0; k < 3; k++) {
            for (int what = 0; what < 3; what++) {
                due("taint(" + k + ", " + what + ")", x.taint(k, what), due[k][what]);
            }
        }
    }

    @Says("-2: there is none such (so without a RUN),")
    static void promise28_minus2_thereIsNoneSuch() {
        for (int k : new int[] {-1, 1, Integer.MIN_VALUE, Integer.MAX_VALUE}) {
            keeps(Promises25To31Test::audited1, "taint(" + k + ", 0)", x -> x.taint(k, 0), -2);
        }
        keeps(Promises25To31Test::noRun, "no run", x -> x.taint(0, 0), -2);
        keeps(CoinSampler::new, "an empty ledger", x -> x.taint(0, 0), -2);
        CoinSampler x = audited1();
        due("there is one", x.taint(0, 0), 0);
        x.clear();
        due("cleared", x.taint(0, 0), -2);
    }

    @Says("what.")
    static void promise28_minus2_what() {
        for (int what : new int[] {-1, 3, Integer.MIN_VALUE, Integer.MAX_VALUE}) {
            keeps(Promises25To31Test::audited1, "taint(0, " + what + ")", x -> x.taint(0, what), -2);
        }
    }

    // ---- promise 29

    @Says({"BOUND (3), what 0 BASIC, 1 all RISES, 2 KNOWN OVER,", "4 what is left of TOLERABLE"})
    static void promise29_basicRisesKnownBoundLeft() {
        whats("bound", 5, 690, 35, 100, 825, 49_175);
        CoinSampler x = audited1();
        x.terms(3, 1);
        due("net changes the bound alone", x.bound(0) + x.bound(1) + x.bound(2), 825);
        due("net", x.bound(3), 715);
        due("what is left of that", x.bound(4), 49_285);
        CoinSampler full = new CoinSampler();
        full.interval(5);
        full.draw();
        due("without coins", full.bound(3), 0);
    }

    @Says("(may be below 0).")
    static void promise29_whatIsLeftMayBeBelow0() {
        CoinSampler x = audited1();
        int[] tolerable = {826, 825, 824, 1, 9_999_999};
        int[] left = {1, 0, -1, -824, 9_999_174};
        for (int i = 0; i < tolerable.length; i++) {
            x.terms(0, tolerable[i]);
            due("left of " + tolerable[i], x.bound(4), left[i]);
        }
        x.forget(6);
        due("left, though something is lacking", x.bound(4), 9_999_174);
    }

    @Says("-10,000,000: what,")
    static void promise29_refused_what() {
        refused("bound", 5);
    }

    @Says("no RUN.")
    static void promise29_refused_noRun() {
        refusedWithoutARun("bound", 5);
    }

    /** As many hits as there can be: each of five runs hits each of 48 items, all of which were worth nothing. */
    private static CoinSampler of240Hits() {
        CoinSampler x = new CoinSampler();
        for (int i = 0; i < 48; i++) {
            x.add(1, i, 99_998);
            x.audit(i, 0);
        }
        x.interval(99_999);
        for (int start : new int[] {20_067, 45_079, 31_797, 83_229, 12_565}) {
            due("draw", x.draw(), start);
        }
        return x;
    }

    @Says("The k-th TAINT above 0 of all HITS (from 0),")
    static void promise28_of240Hits() {
        CoinSampler x = of240Hits();
        due("hits", x.count(5), 240);
        due("the last hit's item", x.hit(239, 0), 47);
        due("its coin, 47 intervals behind the start", x.hit(239, 1), 12_565 + 47 * 99_999);
        due("its run", x.hit(239, 2), 4);
        due("hits of the first run", x.step(1, 0), 48);
        due("the last one's hits", x.item(47, 7), 5);
        due("the last taint", x.taint(239, 0), 239);
        // 4,799,904 by 1,000,000 less 955,158.
        due("the last rise", x.taint(239, 2), 215_237);
        due("behind it", x.taint(240, 0), -2);
        due("basic: by 0.012405", x.bound(0), 59_542);
        due("as much as M, less what is cut", x.bound(3) > 4_799_904 - 241 && x.bound(3) <= 4_799_904 ? 1 : 0, 1);
        due("the last item that is to be looked at", x.drawn(47), 47);
        String line = "1/47 99998x5 =0";
        for (int i = 0; i <= line.length(); i++) {
            due("its line's byte " + i, x.line(47, i), i < line.length() ? line.charAt(i) : NONE);
        }
    }

    @Says("BOUND (3),")
    static void promise29_ofAFullLedger() {
        CoinSampler x = new CoinSampler();
        for (int i = 0; i < 48; i++) {
            x.add(1, i, 9);
            x.audit(i, 0);
        }
        x.interval(10);
        for (int r = 0; r < 5; r++) {
            due("draw", x.draw() > 0 ? 1 : 0, 1);
        }
        // Each run hits 43 of 432 coins; all taints are whole ones, so that basic and rises are M but for what is cut.
        due("M", x.count(2), 432);
        due("hits", x.count(5), 215);
        due("the last taint", x.taint(214, 1), 10_000);
        due("behind it", x.taint(215, 1), -2);
        // 432 by 0.004636, by 0 (0.968750 both), by 0.031250.
        due("the 101st rise", x.taint(100, 2), 2);
        due("the last rise but one", x.taint(213, 2), 0);
        due("the last rise", x.taint(214, 2), 13);
        due("basic", x.bound(0), 5);
        due("as much as all coins, less what is cut", x.bound(3) > 432 - 216 && x.bound(3) <= 432 ? 1 : 0, 1);
    }

    // ---- promise 30

    @Says("BELOW (3), what 0 BASIC, 1 all RISES, 2 KNOWN UNDER.")
    static void promise30_basicRisesKnownBelow() {
        whats("below", 4, 690, 17, 50, 757);
        CoinSampler x = audited1();
        x.terms(3, 1);
        due("net changes the bound alone", x.below(0) + x.below(1) + x.below(2), 757);
        due("net", x.below(3), 537);
        x.audit(0, 0);
        x.audit(1, 0);
        // 690, 17, 50 less 1,000, 600.
        due("it may be below 0", x.below(3), -843);
    }

    @Says("-10,000,000: what,")
    static void promise30_refused_what() {
        refused("below", 4);
    }

    @Says("no RUN.")
    static void promise30_refused_noRun() {
        refusedWithoutARun("below", 4);
    }

    // ---- promise 31

    @Says("0 there is no RUN,")
    static void promise31_0_noRun() {
        due("an empty ledger", new CoinSampler().judged(), 0);
        due("no interval", Checks.ledger().judged(), 0);
        due("something is lacking, but no run", Checks.sampled(0).judged(), 0);
        CoinSampler x = audited1();
        x.clear();
        due("cleared", x.judged(), 0);
    }

    @Says("1 something is LACKING,")
    static void promise31_1_somethingIsLacking() {
        for (int item : new int[] {0, 1, 5, 6}) {
            CoinSampler x = audited1();
            x.forget(item);
            due("without item " + item, x.judged(), 1);
            x.terms(0, 1);
            due("and not tolerable", x.judged(), 1);
        }
        due("none is", audited1().judged(), 2);
        CoinSampler y = audited1();
        y.draw();
        due("one that the second run hit", y.judged(), 1);
        y.audit(2, 500);
        due("nor that any more", y.judged(), 2);
    }

    @Says("2 it is ACCEPTED,")
    static void promise31_2_accepted() {
        CoinSampler x = audited1();
        x.terms(0, 825);
        due("just tolerable", x.judged(), 2);
        CoinSampler empty = new CoinSampler();
        empty.interval(5);
        empty.draw();
        due("nothing to be looked at", empty.judged(), 2);
    }

    @Says("3 it isn't.")
    static void promise31_3_itIsnt() {
        CoinSampler x = audited1();
        x.terms(0, 824);
        due("one too much", x.judged(), 3);
        x.terms(3, 1);
        due("net", x.judged(), 2);
        x.terms(0, 714);
        due("net, one too much", x.judged(), 3);
    }
}
