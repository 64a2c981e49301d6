import java.util.function.Supplier;
import java.util.function.ToIntFunction;

/** Promises 32 to 45, sentence by sentence: what is asked on paper, and what is counted. */
public final class Promises32To45Test {
    private static final int NONE = Sentences.NONE;
    private static final int REFUSED = Sentences.REFUSED;
    private static final int[] NO_WHATS_OF_4 = {-1, 4, Integer.MIN_VALUE, Integer.MAX_VALUE};
    private static final int[] NO_WHATS_OF_2 = {-1, 2, Integer.MIN_VALUE, Integer.MAX_VALUE};

    public static void main(String[] args) {
        Sentences.run(Promises32To45Test.class);
    }

    private static void due(String call, long got, long due) {
        Sentences.due(call, got, due);
    }

    private static void keeps(Supplier<CoinSampler> made, String call, ToIntFunction<CoinSampler> ask, int due) {
        Sentences.keeps(made, call, ask, due);
    }

    private static CoinSampler audited1() {
        return Checks.audited(1);
    }

    private static CoinSampler audited3() {
        return Checks.audited(3);
    }

    private static CoinSampler noRun() {
        return Checks.audited(0);
    }

    private static CoinSampler cleared() {
        CoinSampler x = audited3();
        x.clear();
        return x;
    }

    private static void refusedWithoutARun(ToIntFunction<CoinSampler> ask, int due) {
        keeps(Promises32To45Test::noRun, "no run yet", ask, due);
        keeps(Promises32To45Test::cleared, "no run any more", ask, due);
        keeps(Checks::ledger, "no interval", ask, due);
        keeps(CoinSampler::new, "an empty ledger", ask, due);
    }

    private static void refusedWithoutAnInterval(ToIntFunction<CoinSampler> ask) {
        keeps(Checks::ledger, "no interval", ask, -5);
        keeps(CoinSampler::new, "an empty ledger", ask, -5);
    }

    private static CoinSampler withoutCoins() {
        CoinSampler x = new CoinSampler();
        x.add(1, 1, 0);
        x.add(1, 2, -5);
        x.interval(10);
        return x;
    }

    // ---- promise 32

    @Says("BOUND, were an ITEM AUDITED as v.")
    static void promise32_boundWereAnItemAuditedSo() {
        CoinSampler x = audited1();
        due("as it is", x.would(1, 240), 825);
        due("a hit one without a taint", x.would(1, 300), 790);
        due("a hit one worth nothing: 176, 100, 690", x.would(1, 0), 966);
        due("a certain one worth its book", x.would(0, 1_000), 725);
        due("a certain one worth nothing", x.would(0, 0), 1_725);
        due("a certain one worth twice its book", x.would(0, 2_000), 725);
        due("one that isn't looked at", x.would(2, 0), 825);
        x.terms(3, 1);
        due("net: less 110 and 1,000", x.would(0, 2_000), -385);
        x.forget(1);
        due("one that wasn't audited", x.would(1, 240), 715);
        due("it still isn't", x.item(1, 3), NONE);
    }

    @Says("-10,000,000: the ITEM,")
    static void promise32_refused_theItem() {
        for (int item : new int[] {-1, 7, 48, Integer.MIN_VALUE, Integer.MAX_VALUE}) {
            keeps(Promises32To45Test::audited1, "would(" + item + ", 0)", x -> x.would(item, 0), REFUSED);
        }
    }

    @Says("v (as audit()),")
    static void promise32_refused_v() {
        for (int v : new int[] {-1, 601, Integer.MIN_VALUE, Integer.MAX_VALUE}) {
            keeps(Promises32To45Test::audited1, "would(1, " + v + ")", x -> x.would(1, v), REFUSED);
        }
        due("the greatest", audited1().would(1, 600), 790);
    }

    @Says("no COINS,")
    static void promise32_refused_noCoins() {
        keeps(Promises32To45Test::audited1, "a book of 0", x -> x.would(4, 0), REFUSED);
        keeps(Promises32To45Test::audited1, "a book below 0", x -> x.would(3, 0), REFUSED);
    }

    @Says("no RUN.")
    static void promise32_refused_noRun() {
        refusedWithoutARun(x -> x.would(0, 0), REFUSED);
    }

    // ---- promise 33

    @Says("Of ITEMS that are HIT or CERTAIN and have an ERROR above 0")
    static void promise33_hitOrCertain_anErrorAbove0() {
        CoinSampler x = Checks.sampled(1);
        x.audit(2, 0);
        due("one that is neither", x.dearest(), NONE);
        x.audit(5, 701);
        due("an error below 0", x.dearest(), NONE);
        x.audit(5, 700);
        due("no error", x.dearest(), NONE);
        x.audit(5, 699);
        due("a certain one with an error of 1", x.dearest(), 5);
        x.forget(5);
        due("not audited", x.dearest(), NONE);
        x.audit(6, 0);
        due("a hit one", x.dearest(), 6);
        for (int interval : new int[] {99_998, 99_999}) {
            CoinSampler y = Sentences.single(99_998, interval, 7);
            y.draw();
            y.audit(0, 99_997);
            due("an error of 1, a taint of 0", y.dearest(), 0);
        }
        CoinSampler lacking = Sentences.full();
        lacking.interval(9);
        lacking.draw();
        lacking.audit(30, 0);
        due("all others lacking", lacking.dearest(), 30);
    }

    @Says("that by which BOUND would be least, were it AUDITED as its BOOK,")
    static void promise33_byWhichBoundWouldBeLeast() {
        CoinSampler x = audited1();
        due("725 by item 0, 790 by item 1", x.dearest(), 0);
        x.audit(0, 966);
        due("790 less by 34 or 35", x.dearest(), 1);
        x.audit(5, 664);
        due("by 36", x.dearest(), 5);
    }

    @Says("the first of like ones.")
    static void promise33_theFirstOfLikeOnes() {
        CoinSampler x = audited1();
        x.audit(0, 965);
        due("35 by item 0, 35 by item 1", x.dearest(), 0);
        x.audit(5, 665);
        due("35 by item 5 too", x.dearest(), 0);
        x.forget(0);
        due("35 by item 1, 35 by item 5", x.dearest(), 1);
    }

    @Says("NONE;")
    static void promise33_none() {
        due("nothing audited", Checks.sampled(3).dearest(), NONE);
        CoinSampler x = new CoinSampler();
        x.interval(5);
        x.draw();
        due("an empty ledger", x.dearest(), NONE);
    }

    @Says("-5: no RUN.")
    static void promise33_minus5_noRun() {
        refusedWithoutARun(CoinSampler::dearest, -5);
    }

    // ---- promise 34

    private static CoinSampler tolerable(int runs, int tolerable) {
        CoinSampler x = Checks.audited(runs);
        x.terms(0, tolerable);
        return x;
    }

    @Says({"The fewest RUNS more", "by which it would be ACCEPTED"})
    static void promise34_theFewestRunsMore() {
        // By n 2, 3, 4, 5, 6 BOUND is 825, 703, 608, 537, 482.
        int[] tolerable = {9_999_999, 825, 824, 703, 702, 608, 607, 537, 536, 482};
        int[] more = {0, 0, 1, 1, 2, 2, 3, 3, 4, 4};
        for (int i = 0; i < tolerable.length; i++) {
            due("more() by " + tolerable[i], tolerable(1, tolerable[i]).more(), more[i]);
        }
        // By a risk of 100 and n 2, 3: 890 by 0.683773, by 0.535842.
        int[] ofAnotherRisk = {608, 607, 476, 475};
        for (int i = 0; i < ofAnotherRisk.length; i++) {
            CoinSampler x = Checks.sampled(1);
            x.terms(1, 100);
            x.terms(0, ofAnotherRisk[i]);
            due("more() by " + ofAnotherRisk[i], x.more(), (i + 1) / 2);
        }
    }

    @Says("(5 with those there are at most)")
    static void promise34_5WithThoseThereAreAtMost() {
        due("4 more than 1", tolerable(1, 482).more(), 4);
        due("5 more than 1", tolerable(1, 481).more(), NONE);
        due("2 more than 3", tolerable(3, 482).more(), 2);
        due("3 more than 3", tolerable(3, 481).more(), NONE);
        CoinSampler x = tolerable(5, 1);
        due("none more than 5", x.more(), NONE);
        x.terms(0, x.bound(3));
        due("none is needed", x.more(), 0);
    }

    @Says("(0: it is),")
    static void promise34_0_itIsAccepted() {
        due("just tolerable", tolerable(1, 825).more(), 0);
        due("not so", tolerable(1, 824).more(), 1);
        CoinSampler lacking = tolerable(1, 825);
        lacking.forget(5);
        due("accepted, though something is lacking", lacking.more(), 0);
    }

    @Says("if each made M by INTERVAL, cut, HITS more,")
    static void promise34_mByIntervalCutHitsMore() {
        CoinSampler small = Sentences.single(8, 600, 7);
        small.draw();
        small.terms(0, 7);
        due("8 by 600 is none", small.more(), NONE);
        small.terms(0, 8);
        due("8", small.more(), 0);
        CoinSampler certain = Sentences.single(10, 10, 7);
        certain.draw();
        certain.audit(0, 4);
        certain.terms(0, 6);
        due("M is 0, 6 is known", certain.more(), 0);
        certain.terms(0, 5);
        due("M is 0, and no run makes it less", certain.more(), NONE);
        // M 890 by 100: 8 hits more each; n is 8 or 9 by one run.
        CoinSampler fine = new CoinSampler();
        for (int i = 0; i < 10; i++) {
            fine.add(1, i, 89);
        }
        fine.interval(100);
        fine.draw();
        due("hits", fine.count(5), 9);
        fine.terms(0, 890 * fine.upper(17, 0) / 1_000_000);
        due("8 more", fine.more(), 1);
        fine.terms(0, 890 * fine.upper(17, 0) / 1_000_000 - 1);
        due("16 more", fine.more(), 2);
        due("16 would do", 890 * fine.upper(25, 0) / 1_000_000 < 890 * fine.upper(17, 0) / 1_000_000 ? 1 : 0, 1);
    }

    @Says("none of which has a TAINT")
    static void promise34_noneOfWhichHasATaint() {
        CoinSampler x = Checks.sampled(1);
        x.audit(1, 0);
        // By n 3: 562 and 890 by 0.233053.
        x.terms(0, 562 + 207);
        due("the taints there are alone", x.more(), 1);
        x.terms(0, 562 + 206);
        due("one less", x.more(), 2);
    }

    @Says("(PROJECTED by RUNS as they are now).")
    static void promise34_projectedByRunsAsTheyAreNow() {
        CoinSampler x = audited1();
        x.terms(3, 1);
        // 110 less by one run; by five runs it would be 62.
        x.terms(0, 372);
        due("482 less 110", x.more(), 4);
        x.terms(0, 371);
        due("one less", x.more(), NONE);
    }

    @Says("NONE;")
    static void promise34_none() {
        keeps(() -> tolerable(1, 481), "more", CoinSampler::more, NONE);
        CoinSampler x = tolerable(1, 99);
        due("known alone is too much", x.more(), NONE);
    }

    @Says("-5: no RUN.")
    static void promise34_minus5_noRun() {
        refusedWithoutARun(CoinSampler::more, -5);
    }

    // ---- promise 35

    @Says("Were there the first r RUNS alone (r 1 to how many there are),")
    static void promise35_theFirstRRunsAlone() {
        CoinSampler x = audited3();
        due("the least", x.step(1, 0), 2);
        due("the greatest", x.step(3, 0), 4);
        due("below", x.step(0, 0), REFUSED);
        due("above", x.step(4, 0), REFUSED);
        x.audit(2, 0);
        due("what later runs hit doesn't count", x.step(1, 1), 825);
        due("by two it does", x.step(2, 1) > 825 ? 1 : 0, 1);
        x.audit(2, 1_000);
        x.terms(3, 1);
        due("nor what it takes off by NET", x.step(1, 1), 715);
    }

    private static void steps(int what, int... due) {
        CoinSampler x = audited3();
        x.terms(0, 703);
        for (int r = 1; r <= 3; r++) {
            due("step(" + r + ", " + what + ")", x.step(r, what), due[r - 1]);
        }
    }

    @Says("what 0 HITS,")
    static void promise35_hits() {
        steps(0, 2, 3, 4);
        CoinSampler x = Sentences.single(1, 600, 7);
        x.draw();
        due("none", x.step(1, 0), 0);
    }

    @Says("1 BOUND,")
    static void promise35_bound() {
        steps(1, 825, 703, 608);
        CoinSampler x = audited3();
        x.terms(3, 1);
        due("net, projected by one run", x.step(1, 1), 715);
        due("net, projected by two", x.step(2, 1), 623);
        due("all runs", x.step(3, 1), x.bound(3));
        CoinSampler y = audited3();
        y.terms(1, 100);
        // 890 by 0.683773, 890 by 0.264911 by 0.2, 100.
        due("by another risk", y.step(1, 1), 608 + 47 + 100);
    }

    @Says("2 1 if it is ACCEPTED, else 0,")
    static void promise35_accepted() {
        steps(2, 0, 1, 1);
        CoinSampler x = audited3();
        x.terms(0, 715);
        due("825 is too much", x.step(1, 2), 0);
        x.terms(3, 1);
        due("net, it is just tolerable", x.step(1, 2), 1);
        x.terms(0, 714);
        due("one too much", x.step(1, 2), 0);
    }

    @Says("3 how many ITEMS are LACKING.")
    static void promise35_howManyAreLacking() {
        steps(3, 0, 1, 1);
        CoinSampler x = Checks.sampled(3);
        due("by one run", x.step(1, 3), 4);
        due("by two", x.step(2, 3), 5);
        due("by three", x.step(3, 3), 5);
        // Starts 267, 478, 597, 429, 157: coins of items 2, 3, 4, 3, 1.
        CoinSampler late = new CoinSampler();
        for (int i = 0; i < 5; i++) {
            late.add(1, i, 120);
        }
        late.interval(600);
        int[] lacking = {1, 2, 3, 3, 4};
        for (int r = 0; r < 5; r++) {
            late.draw();
            due("lacking by " + (r + 1), late.step(r + 1, 3), lacking[r]);
        }
    }

    @Says("-10,000,000: r,")
    static void promise35_refused_r() {
        for (int r : new int[] {0, 4, -1, Integer.MIN_VALUE, Integer.MAX_VALUE}) {
            keeps(Promises32To45Test::audited3, "step(" + r + ", 0)", x -> x.step(r, 0), REFUSED);
        }
        refusedWithoutARun(x -> x.step(1, 0), REFUSED);
        due("the fifth of five", Checks.sampled(5).step(5, 0), 7);
        due("a sixth", Checks.sampled(5).step(6, 0), REFUSED);
    }

    @Says("what.")
    static void promise35_refused_what() {
        for (int what : NO_WHATS_OF_4) {
            keeps(Promises32To45Test::audited3, "step(1, " + what + ")", x -> x.step(1, what), REFUSED);
        }
    }

    // ---- promise 36

    private static CoinSampler ofOneHit(int tolerable) {
        CoinSampler x = Sentences.single(90_000, 99_999, 7);
        x.draw();
        x.terms(0, tolerable);
        return x;
    }

    @Says("The least RISK by which it would be ACCEPTED,")
    static void promise36_theLeastRisk() {
        due("any", tolerable(1, 9_999_999).risky(), 1);
        due("that there is", tolerable(1, 825).risky(), 50);
        due("one more", tolerable(1, 824).risky(), 51);
        // 90,000 by 0.998001 and by 0.999001.
        due("2", ofOneHit(89_820).risky(), 2);
        due("1", ofOneHit(89_910).risky(), 1);
        due("the term stays", tolerable(1, 825).count(11), 50);
        CoinSampler x = tolerable(1, 825);
        x.terms(1, 500);
        due("whatever the term is", x.risky(), 50);
        // Of n 2, without a taint above 0: 890 by UPPER; item 6 is 60 under, which NET takes off.
        CoinSampler y = Checks.sampled(1);
        y.audit(6, 99);
        y.terms(0, 608);
        due("890 by 0.683773", y.risky(), 100);
        y.terms(3, 1);
        due("net, 890 by 0.751003 less 60", y.risky(), 62);
    }

    @Says({"found by halving: LOW is 0, HIGH 501; as long as HIGH is more than 1 above LOW: RISK is LOW and HIGH by 2, cut;",
        "if it is ACCEPTED by that, HIGH is that, else LOW; HIGH then."})
    static void promise36_foundByHalving() {
        int[] risks = {1, 2, 125, 249, 250, 251, 375, 499, 500};
        for (int risk : risks) {
            CoinSampler x = ofOneHit(90_000);
            x.terms(1, risk);
            x.terms(0, (int) (90_000L * x.upper(1, 0) / 1_000_000));
            due("risky() by what " + risk + " makes", x.risky(), risk);
        }
    }

    @Says("NONE: that is 501;")
    static void promise36_none_501() {
        due("500", ofOneHit(45_000).risky(), 500);
        keeps(() -> ofOneHit(44_999), "risky", CoinSampler::risky, NONE);
        keeps(() -> ofOneHit(1), "risky", CoinSampler::risky, NONE);
    }

    @Says("-5: no RUN.")
    static void promise36_minus5_noRun() {
        refusedWithoutARun(CoinSampler::risky, -5);
    }

    // ---- promise 37

    private static CoinSampler ofTolerable(int tolerable) {
        CoinSampler x = Checks.ledger();
        x.terms(0, tolerable);
        return x;
    }

    @Says("SIZE (of TOLERABLE), were EXPECT e (0 to 9).")
    static void promise37_wereExpectE_0To9() {
        CoinSampler x = ofTolerable(2_010);
        int[] sizes = {2, 4};
        for (int e = 0; e < sizes.length; e++) {
            due("sizes(" + e + ")", x.sizes(e), sizes[e]);
        }
        x.terms(2, 1);
        due("whatever the term is", x.sizes(0), 2);
        due("the term stays", x.count(12), 1);
        CoinSampler y = ofTolerable(2_589);
        due("the greatest", y.sizes(9), 10);
        due("one less", y.sizes(8), 9);
        due("all coins are tolerable", ofTolerable(2_590).sizes(9), 1);
    }

    @Says("NONE: none up to 400;")
    static void promise37_none_upTo400() {
        keeps(() -> ofTolerable(18), "sizes", x -> x.sizes(0), NONE);
        due("just one", ofTolerable(19).sizes(0), 387);
        due("not by a greater one", ofTolerable(19).sizes(1), NONE);
    }

    @Says("-3;")
    static void promise37_minus3_noSuchE() {
        for (int e : new int[] {-1, 10, Integer.MIN_VALUE, Integer.MAX_VALUE}) {
            keeps(Promises32To45Test::audited1, "sizes(" + e + ")", x -> x.sizes(e), -3);
        }
    }

    @Says("-5: there are no COINS.")
    static void promise37_minus5_noCoins() {
        keeps(CoinSampler::new, "no item", x -> x.sizes(0), -5);
        keeps(Promises32To45Test::withoutCoins, "no coin", x -> x.sizes(9), -5);
    }

    // ---- promise 38

    private static void trials(int what, int[] starts, int... due) {
        CoinSampler x = audited1();
        for (int i = 0; i < starts.length; i++) {
            due("trial(" + starts[i] + ", " + what + ")", x.trial(starts[i], what), due[i]);
        }
    }

    @Says("Of one RUN alone of a START (1 to INTERVAL),")
    static void promise38_ofAStart_1ToInterval() {
        CoinSampler x = noRun();
        due("the least", x.trial(1, 0), 2);
        due("the greatest", x.trial(600, 0), 1);
        due("below", x.trial(0, 0), -3);
        due("above", x.trial(601, 0), -3);
        due("the runs there are don't count", Checks.audited(5).trial(1, 0), 2);
        CoinSampler large = new CoinSampler();
        for (int i = 0; i < 48; i++) {
            large.add(1, i, 99_999);
        }
        large.terms(0, 9_999_999);
        large.plan();
        due("an interval above 99,999", large.trial(4_799_952, 3), 4_799_952);
        due("behind it", large.trial(4_799_953, 3), -3);
    }

    @Says("what 0 HITS,")
    static void promise38_hits() {
        trials(0, new int[] {1, 289, 290, 291, 600}, 2, 2, 2, 1, 1);
        CoinSampler small = Sentences.single(8, 600, 7);
        due("the last coin", small.trial(8, 0), 1);
        due("behind it", small.trial(9, 0), 0);
        due("no coins", withoutCoins().trial(1, 0), 0);
    }

    @Says("1 how many ITEMS that it HITS and CERTAIN ones aren't AUDITED,")
    static void promise38_howManyArentAudited() {
        trials(1, new int[] {200, 201, 300, 301, 600}, 1, 0, 0, 1, 1);
        CoinSampler x = Checks.sampled(1);
        due("none audited: 0, 1, 5, 6", x.trial(201, 1), 4);
        x.audit(0, 0);
        x.audit(1, 0);
        due("5, 6", x.trial(201, 1), 2);
        x.audit(6, 90);
        due("5 alone, though 6 is right", x.trial(201, 1), 1);
        due("no coins", withoutCoins().trial(1, 1), 0);
    }

    @Says("2 TAINTS above 0 of its HITS together,")
    static void promise38_taintsAbove0Together() {
        trials(2, new int[] {1, 201, 290, 300, 301, 600}, 2_000, 2_000, 2_000, 2_000, 0, 0);
        CoinSampler x = audited1();
        x.audit(6, 45);
        due("both", x.trial(201, 2), 7_000);
        due("one alone", x.trial(200, 2), 2_000);
        x.audit(0, 0);
        due("not of certain ones", x.trial(201, 2), 7_000);
    }

    @Says("3 the last COIN that it HITS (0: none).")
    static void promise38_theLastCoin_0None() {
        trials(3, new int[] {1, 290, 291, 600}, 601, 890, 291, 600);
        CoinSampler small = Sentences.single(8, 600, 7);
        due("the last coin", small.trial(8, 3), 8);
        due("behind it", small.trial(9, 3), 0);
        small.draw();
        due("behind it, when a run was drawn", small.trial(600, 3), 0);
        due("no coins", withoutCoins().trial(1, 3), 0);
    }

    @Says("-2: what;")
    static void promise38_minus2_what() {
        for (int what : NO_WHATS_OF_4) {
            keeps(Promises32To45Test::audited1, "trial(1, " + what + ")", x -> x.trial(1, what), -2);
        }
        due("ahead of no interval", Checks.ledger().trial(1, 4), -2);
        due("ahead of the start", audited1().trial(0, 4), -2);
    }

    @Says("-3;")
    static void promise38_minus3_noSuchStart() {
        for (int start : new int[] {0, -1, 601, Integer.MIN_VALUE, Integer.MAX_VALUE}) {
            keeps(Promises32To45Test::audited1, "trial(" + start + ", 0)", x -> x.trial(start, 0), -3);
        }
    }

    @Says("-5: no INTERVAL (ahead of -3).")
    static void promise38_minus5_noInterval_aheadOfMinus3() {
        refusedWithoutAnInterval(x -> x.trial(1, 0));
        keeps(Checks::ledger, "a start that can't be", x -> x.trial(0, 0), -5);
        keeps(Checks::ledger, "a start that can't be", x -> x.trial(-5, 3), -5);
    }

    // ---- promise 39

    @Says("Of all COINS how many belong to ITEMS that are HIT or CERTAIN, in thousandths, cut")
    static void promise39_inThousandths_cut() {
        due("no run: 1,700 of 2,590 are 656.3..", noRun().covered(), 656);
        due("2,090 of 2,590 are 806.9..", audited1().covered(), 806);
        due("all", audited3().covered(), 1_000);
        due("no interval", Checks.ledger().covered(), 0);
        CoinSampler none = Sentences.single(8, 600, 7);
        none.draw();
        due("none", none.covered(), 0);
        CoinSampler many = new CoinSampler();
        for (int i = 0; i < 48; i++) {
            many.add(1, i, 99_999);
        }
        many.interval(99_999);
        due("very many", many.covered(), 1_000);
        CoinSampler nearly = Sentences.single(1, 2, 7);
        nearly.add(1, 2, 99_999);
        due("all but one of 100,000", nearly.covered(), 999);
    }

    @Says("(0 without COINS).")
    static void promise39_0WithoutCoins() {
        keeps(CoinSampler::new, "no item", CoinSampler::covered, 0);
        keeps(Promises32To45Test::withoutCoins, "no coin", CoinSampler::covered, 0);
    }

    // ---- promise 40

    private static void caught(CoinSampler x, int... due) {
        for (int k = 0; k < due.length; k++) {
            due("caught(" + k + ")", x.caught(k), due[k]);
        }
        due("more than there are", x.caught(due.length), 0);
        due("far more", x.caught(Integer.MAX_VALUE), 0);
    }

    @Says("How many STARTS (1 to INTERVAL) of one RUN alone HIT just k")
    static void promise40_justK() {
        caught(audited1(), 300, 210, 90);
        CoinSampler x = Sentences.single(8, 600, 7);
        x.audit(0, 0);
        caught(x, 592, 8);
        caught(withoutCoins(), 10);
        CoinSampler full = fullOfErrors();
        // M is 1,560: 26 times 59, and 26 more.
        due("none", full.caught(0), 0);
        due("one less than the fewest", full.caught(25), 0);
        due("the fewest", full.caught(26), 33);
        due("the most", full.caught(27), 26);
        due("one more than the most", full.caught(28), 0);
        due("all items", full.caught(48), 0);
    }

    /** 48 items of the rest that are worth nothing, an interval of 59. */
    private static CoinSampler fullOfErrors() {
        CoinSampler x = Sentences.full();
        x.interval(59);
        for (int i = 0; i < 48; i++) {
            x.audit(i, 0);
        }
        return x;
    }

    @Says("How many STARTS (1 to INTERVAL)")
    static void promise40_ofTheIntervalAsItIsNow() {
        CoinSampler x = noRun();
        for (int i = 0; i < 60; i++) {
            due("caught(2)", x.caught(2), 90);
        }
        x.interval(400);
        // Items 1 and 6 alone are of the rest.
        caught(x, 10, 390);
        x.post(6, 80);
        caught(x, 100, 300);
        due("the greatest interval", x.interval(99_999), 0);
        due("all starts", x.caught(0) + x.caught(1) + x.caught(2) + x.caught(3) + x.caught(4), 99_999);
    }

    @Says("of those ITEMS of THE REST that have an ERROR.")
    static void promise40_ofThoseOfTheRestThatHaveAnError() {
        CoinSampler x = audited1();
        x.audit(1, 300);
        caught(x, 510, 90);
        x.forget(6);
        caught(x, 600);
        x.audit(0, 0);
        x.audit(5, 0);
        caught(x, 600);
        CoinSampler small = Sentences.single(99_998, 99_999, 7);
        small.audit(0, 99_997);
        due("an error without a taint", small.item(0, 5), 0);
        caught(small, 1, 99_998);
    }

    @Says("-3: k is below 0;")
    static void promise40_minus3_kIsBelow0() {
        for (int k : new int[] {-1, -2, Integer.MIN_VALUE}) {
            keeps(Promises32To45Test::audited1, "caught(" + k + ")", x -> x.caught(k), -3);
            due("ahead of no interval", Checks.ledger().caught(k), -3);
        }
    }

    @Says("-5: no INTERVAL.")
    static void promise40_minus5_noInterval() {
        refusedWithoutAnInterval(x -> x.caught(0));
    }

    // ---- promise 41

    private static void worst(CoinSampler x, int start, int taint) {
        due("worst(0)", x.worst(0), start);
        due("worst(1)", x.worst(1), taint);
    }

    @Says("The START by which one RUN alone HITS most TAINT above 0 together,")
    static void promise41_mostTaintAbove0Together() {
        CoinSampler x = audited1();
        x.audit(6, 45);
        worst(x, 201, 7_000);
        x.audit(1, 600);
        worst(x, 201, 5_000);
        x.audit(2, 0);
        worst(x, 1, 10_000);
        x.audit(2, 400);
        x.audit(6, 0);
        worst(x, 201, 10_000);
        CoinSampler last = Sentences.single(599, 600, 7);
        last.add(1, 2, 1);
        last.audit(1, 0);
        worst(last, 600, 10_000);
        // 47 items of two coins each, then the last six of 100.
        CoinSampler full = new CoinSampler();
        for (int i = 0; i < 48; i++) {
            full.add(1, i, i < 47 ? 2 : 6);
        }
        full.interval(100);
        full.audit(47, 0);
        worst(full, 95, 10_000);
    }

    @Says("the lowest of like ones (what 0);")
    static void promise41_theLowestOfLikeOnes() {
        CoinSampler x = audited1();
        worst(x, 1, 2_000);
        x.audit(1, 300);
        worst(x, 1, 0);
        x.audit(2, 250);
        // Coins 601 to 800 are those of starts 1 to 200.
        worst(x, 1, 5_000);
        CoinSampler y = Sentences.single(5, 600, 7);
        y.add(1, 2, 2);
        y.add(1, 3, 2);
        y.audit(1, 0);
        y.audit(2, 0);
        worst(y, 6, 10_000);
        worst(withoutCoins(), 1, 0);
    }

    @Says("how much that is (1).")
    static void promise41_howMuchThatIs() {
        worst(fullOfErrors(), 1, 270_000);
        due("nothing audited", Checks.sampled(0).worst(1), 0);
    }

    @Says("-2: what;")
    static void promise41_minus2_what() {
        for (int what : NO_WHATS_OF_2) {
            keeps(Promises32To45Test::audited1, "worst(" + what + ")", x -> x.worst(what), -2);
            due("ahead of no interval", Checks.ledger().worst(what), -2);
        }
    }

    @Says("-5: no INTERVAL.")
    static void promise41_minus5_noInterval() {
        refusedWithoutAnInterval(x -> x.worst(0));
        refusedWithoutAnInterval(x -> x.worst(1));
    }

    // ---- promise 42

    private static void chance(CoinSampler x, int upper, int lower) {
        due("chance(0)", x.chance(0), upper);
        due("chance(1)", x.chance(1), lower);
    }

    @Says("By how likely one RUN alone HITS some ITEM of THE REST that has an ERROR,")
    static void promise42_byHowLikely() {
        CoinSampler x = Checks.sampled(0);
        x.audit(1, 599);
        chance(x, 1, 2);
        x.audit(2, 499);
        chance(x, 1, 1);
        x.forget(1);
        chance(x, 5, 6);
        x.forget(2);
        x.audit(0, 0);
        chance(x, 0, 1);
        CoinSampler small = Sentences.single(99_998, 99_999, 7);
        small.audit(0, 99_997);
        chance(small, 99_998, 99_999);
        CoinSampler manyCertain = Checks.audited(0);
        due("certain", manyCertain.interval(91), 4);
        chance(manyCertain, 90, 91);
    }

    @Says("in lowest terms, what 0 upper, 1 lower number")
    static void promise42_inLowestTerms() {
        int[] intervals = {12, 13, 14, 15, 18, 24, 36, 60, 66};
        for (int interval : intervals) {
            // 6 of them.
            CoinSampler x = Sentences.single(6, interval, 7);
            x.audit(0, 0);
            int common = interval % 6 == 0 ? 6 : interval % 3 == 0 ? 3 : interval % 2 == 0 ? 2 : 1;
            chance(x, 6 / common, interval / common);
        }
    }

    @Says("(0 by 1).")
    static void promise42_0By1() {
        chance(Checks.sampled(0), 0, 1);
        chance(withoutCoins(), 0, 1);
        CoinSampler x = new CoinSampler();
        x.interval(1);
        chance(x, 0, 1);
    }

    @Says("-2: what;")
    static void promise42_minus2_what() {
        for (int what : NO_WHATS_OF_2) {
            keeps(Promises32To45Test::audited1, "chance(" + what + ")", x -> x.chance(what), -2);
            due("ahead of no interval", Checks.ledger().chance(what), -2);
        }
    }

    @Says("-5: no INTERVAL.")
    static void promise42_minus5_noInterval() {
        refusedWithoutAnInterval(x -> x.chance(0));
        refusedWithoutAnInterval(x -> x.chance(1));
    }

    // ---- promise 43

    @Says("Were INTERVAL v (1 to 9,999,999),")
    static void promise43_v_1To9999999() {
        CoinSampler x = audited1();
        due("the least", x.were(1, 1, 0), 5);
        due("the greatest", x.were(9_999_999, 1, 1), 2_590);
        due("below", x.were(0, 1, 0), -3);
        due("above", x.were(10_000_000, 1, 0), -3);
        due("without an interval now", Checks.ledger().were(600, 1, 1), 890);
        due("without items", new CoinSampler().were(1, 1, 1), 0);
    }

    @Says("and there one RUN of a START (1 to v),")
    static void promise43_start_1ToV() {
        CoinSampler x = audited1();
        due("the least", x.were(2_590, 1, 2), 1);
        due("the greatest, the last coin", x.were(2_590, 2_590, 2), 1);
        due("behind the last coin", x.were(2_591, 2_591, 2), 0);
        due("below", x.were(2_590, 0, 2), -3);
        due("above", x.were(2_590, 2_591, 2), -3);
        due("the greatest of all", x.were(9_999_999, 9_999_999, 2), 0);
    }

    @Says("what 0 how many are CERTAIN,")
    static void promise43_howManyAreCertain() {
        CoinSampler x = audited1();
        int[] v = {1, 90, 91, 300, 301, 700, 701, 1_000, 1_001};
        int[] certain = {5, 5, 4, 4, 3, 2, 1, 1, 0};
        for (int i = 0; i < v.length; i++) {
            due("were(" + v[i] + ", 1, 0)", x.were(v[i], 1, 0), certain[i]);
        }
    }

    @Says("1 M,")
    static void promise43_m() {
        CoinSampler x = audited1();
        int[] v = {1, 91, 501, 701, 1_001};
        int[] m = {0, 90, 890, 1_590, 2_590};
        for (int i = 0; i < v.length; i++) {
            due("were(" + v[i] + ", 1, 1)", x.were(v[i], 1, 1), m[i]);
        }
        due("M now", x.count(2), 890);
        CoinSampler y = Checks.ledger();
        due("before a change", y.were(600, 1, 1), 890);
        y.post(1, 310);
        due("behind it", y.were(600, 1, 1), 900);
        y.add(9, 9, 5);
        due("one item more", y.were(600, 1, 1), 905);
    }

    @Says("2 HITS,")
    static void promise43_hits() {
        CoinSampler x = audited1();
        due("701, 1,402", x.were(701, 701, 2), 2);
        due("188, 889, 1,590", x.were(701, 188, 2), 3);
        due("189, 890", x.were(701, 189, 2), 2);
        due("no coins of the rest", x.were(1, 1, 2), 0);
        due("hits now", x.count(5), 2);
    }

    @Says("3 how many of the ITEMS that are HIT or CERTAIN now would be so.")
    static void promise43_howManyWouldBeSo() {
        CoinSampler x = audited1();
        // 0, 1, 5 and 6 are so now. By 701 items 1, 2, 5, 6 are of the rest, from 1, 301, 801 and 1,501 on.
        due("0 is certain; 5 hit twice", x.were(701, 801 - 701, 3), 4);
        due("0; 701 of item 2, 1,402 of item 5", x.were(701, 701, 3), 2);
        due("0; 199 of item 1, 900 of item 5", x.were(701, 199, 3), 3);
        due("all are certain", x.were(1, 1, 3), 4);
        due("none", x.were(9_999_999, 9_999_999, 3), 0);
        due("none is so now", Checks.ledger().were(1, 1, 3), 0);
    }

    @Says("-2: what;")
    static void promise43_minus2_what() {
        for (int what : NO_WHATS_OF_4) {
            keeps(Promises32To45Test::audited1, "were(5, 5, " + what + ")", x -> x.were(5, 5, what), -2);
            due("ahead of v", audited1().were(0, 0, what), -2);
        }
    }

    @Says("-3.")
    static void promise43_minus3_vOrStart() {
        int[][] wrong = {{0, 0}, {-1, 1}, {10_000_000, 1}, {5, 0}, {5, 6}, {5, -1}, {Integer.MIN_VALUE, 1},
            {Integer.MAX_VALUE, 1}, {5, Integer.MIN_VALUE}, {5, Integer.MAX_VALUE}};
        for (int[] told : wrong) {
            keeps(Promises32To45Test::audited1, "were(" + told[0] + ", " + told[1] + ", 0)",
                x -> x.were(told[0], told[1], 0), -3);
        }
    }

    // ---- promise 44

    @Says("How many STARTS HIT both of two ITEMS of THE REST.")
    static void promise44_howManyStartsHitBoth() {
        CoinSampler x = Checks.sampled(1);
        int[] rest = {1, 2, 6};
        int[][] due = {{300, 200, 90}, {200, 500, 0}, {90, 0, 90}};
        for (int a = 0; a < 3; a++) {
            for (int b = 0; b < 3; b++) {
                due("both(" + rest[a] + ", " + rest[b] + ")", x.both(rest[a], rest[b]), due[a][b]);
            }
        }
        // Starts 591 to 600 of the one, 1 to 9 and 590 to 599 of the other.
        CoinSampler round = Sentences.single(590, 600, 7);
        round.add(1, 2, 10);
        round.add(1, 3, 589);
        round.add(1, 4, 12);
        due("591 to 600, 590 to 600 and 1", round.both(1, 3), 10);
        due("1 to 589, 1 and 590 to 600", round.both(2, 3), 1);
        due("1 to 590, 1 to 589", round.both(0, 2), 589);
        due("1 to 590 of itself", round.both(0, 0), 590);
    }

    @Says("-2: an ITEM,")
    static void promise44_minus2_anItem() {
        for (int item : new int[] {-1, 7, 48, Integer.MIN_VALUE, Integer.MAX_VALUE}) {
            keeps(Promises32To45Test::audited1, "both(" + item + ", 1)", x -> x.both(item, 1), -2);
            keeps(Promises32To45Test::audited1, "both(1, " + item + ")", x -> x.both(1, item), -2);
        }
    }

    @Says("it isn't of THE REST;")
    static void promise44_minus2_itIsntOfTheRest() {
        for (int item : new int[] {0, 3, 4, 5}) {
            keeps(Promises32To45Test::audited1, "both(" + item + ", 1)", x -> x.both(item, 1), -2);
            keeps(Promises32To45Test::audited1, "both(1, " + item + ")", x -> x.both(1, item), -2);
        }
        due("ahead of no interval", Checks.ledger().both(0, 4), -2);
    }

    @Says("-5: no INTERVAL.")
    static void promise44_minus5_noInterval() {
        keeps(Checks::ledger, "two of the rest", x -> x.both(0, 1), -5);
        keeps(Checks::ledger, "the same", x -> x.both(0, 0), -5);
    }

    // ---- promise 45

    @Says({"0 ITEMS, 1 COINS of all, 2 M, 3 INTERVAL, 4 RUNS, 5 HITS, 6 how many ITEMS are HIT, 7 bytes on THE TAPE,",
        "8 ITEMS that were AUDITED, 9 s, 10 to 14 TERMS."})
    static void promise45_eachCount() {
        CoinSampler x = audited3();
        x.feed(0, 0, 0, 0, 0);
        int[] told = {12, 34, 5, 1};
        for (int what = 0; what < told.length; what++) {
            x.terms(what, told[what]);
        }
        int[] due = {7, 2_590, 890, 600, 3, 4, 3, 20, 4, 31_796, 12, 34, 5, 1, 7};
        for (int what = 0; what < due.length; what++) {
            due("count(" + what + ")", x.count(what), due[what]);
        }
    }

    @Says({"0 ITEMS, 1 COINS of all, 2 M,", "6 how many ITEMS are HIT,"})
    static void promise45_theEmptyLedgerAndTheFullOne() {
        for (int what = 0; what < 9; what++) {
            due("count(" + what + ") of an empty one", new CoinSampler().count(what), 0);
        }
        CoinSampler full = new CoinSampler();
        for (int i = 0; i < 48; i++) {
            full.add(1, i, 99_999);
        }
        due("items", full.count(0), 48);
        due("coins", full.count(1), 4_799_952);
        due("M", full.count(2), 4_799_952);
        full.interval(99_999);
        due("all are certain", full.count(2), 0);
        full.post(0, 99_998);
        full.draw();
        due("one is hit", full.count(6), 1);
    }

    @Says("NONE for others.")
    static void promise45_noneForOthers() {
        for (int what : new int[] {-1, 15, 16, Integer.MIN_VALUE, Integer.MAX_VALUE}) {
            keeps(Promises32To45Test::audited1, "count(" + what + ")", x -> x.count(what), NONE);
        }
    }
}
