import java.util.List;
import java.util.function.Supplier;
import java.util.function.ToIntFunction;

/** Section 3 of the document's terms, sentence by sentence: what hits make, what is refused; and what an object is. */
public final class Terms3Test {
    private static final int NONE = Sentences.NONE;
    private static final int REFUSED = Sentences.REFUSED;

    public static void main(String[] args) {
        Sentences.run(Terms3Test.class);
    }

    private static void due(String call, long got, long due) {
        Sentences.due(call, got, due);
    }

    private static void keeps(Supplier<CoinSampler> made, String call, ToIntFunction<CoinSampler> ask, int due) {
        Sentences.keeps(made, call, ask, due);
    }

    // ---- what an object is

    @Says("An object is used for at most 512 calls after it has been made;")
    static void whatItIs_the512thCallIsAnsweredStill() {
        CoinSampler x = Checks.audited(3);
        // 7 items, an interval, 3 runs, 4 audits: 15 calls.
        for (int call = 16; call <= 508; call++) {
            due("call " + call, x.bound(3), 608);
        }
        due("call 509", x.terms(4, 7), 7);
        due("call 510", x.clear(), 3);
        due("call 511", x.draw(), 267);
        due("call 512", x.bound(3), 825);
    }

    @Says({"NONE = -1:", "There is none."})
    static void constants_noneIsMinus1() throws ReflectiveOperationException {
        due("NONE", CoinSampler.class.getField("NONE").getInt(null), -1);
        due("find", new CoinSampler().find(1, 1), -1);
    }

    // ---- PROJECTED, KNOWN

    @Says("PROJECTED (of THE REST):")
    static void terms3_projected_ofTheRestAlone() {
        CoinSampler x = Checks.sampled(1);
        x.audit(0, 0);
        x.audit(5, 1_400);
        due("a certain one over", x.projected(0), 0);
        due("a certain one under", x.projected(1), 0);
        x.audit(2, 0);
        due("one of the rest that isn't hit", x.projected(0), 0);
        x.audit(1, 0);
        due("one that is", x.projected(0), 600);
    }

    @Says("of each HIT of an ITEM that was AUDITED")
    static void terms3_projected_ofEachHitOfAnAuditedItem() {
        CoinSampler x = Checks.sampled(3);
        due("none audited", x.projected(0), 0);
        x.audit(2, 0);
        due("two hits, each 200", x.projected(0), 400);
        x.forget(2);
        due("forgotten", x.projected(0), 0);
    }

    @Says("TAINT times INTERVAL by (10,000 times how many RUNS), cut towards 0;")
    static void terms3_projected_cutTowards0_hitByHit() {
        CoinSampler x = Checks.sampled(3);
        // Taints 20, 60, 80 times 600 by 30,000: 0.4, 1.2, 1.6 for each of two hits.
        int[] audited = {499, 497, 496, 501, 503, 504, 500};
        int[] over = {0, 2, 2, 0, 0, 0, 0};
        int[] under = {0, 0, 0, 0, 2, 2, 0};
        for (int i = 0; i < audited.length; i++) {
            x.audit(2, audited[i]);
            due("over of " + audited[i], x.projected(0), over[i]);
            due("under of " + audited[i], x.projected(1), under[i]);
        }
        CoinSampler y = Checks.audited(1);
        due("by one run", y.projected(0), 120);
        y.draw();
        due("by two", y.projected(0), 60);
        CoinSampler five = Checks.sampled(5);
        five.audit(1, 240);
        due("by five, two hits of 24", five.projected(0), 48);
        y.clear();
        y.terms(4, 7);
        y.draw();
        y.audit(1, 200);
        due("a third, as a taint 3,333, by 600", y.projected(0), 199);
        y.audit(1, 400);
        due("the same below 0, and 60 of item 6", y.projected(1), 199 + 60);
        CoinSampler odd = Sentences.single(1_000, 1_001, 7);
        odd.audit(0, 100);
        for (int r = 0; r < 3; r++) {
            odd.draw();
        }
        due("9,000 by 1,001, by three runs: 300.3 each", odd.projected(0), 900);
        CoinSampler large = new CoinSampler();
        for (int i = 0; i < 48; i++) {
            large.add(1, i, 99_999);
            large.audit(i, 0);
        }
        large.terms(0, 9_999_999);
        large.plan();
        large.draw();
        due("a large interval", large.projected(0), 4_799_952);
    }

    @Says("OVER: of those above 0, UNDER: of those below 0, without sign.")
    static void terms3_projected_overAndUnder() {
        CoinSampler x = Checks.audited(1);
        due("over", x.projected(0), 120);
        due("under", x.projected(1), 60);
        x.audit(6, 90);
        due("neither above nor below", x.projected(1), 0);
        x.audit(1, 600);
        due("none above", x.projected(0), 0);
        due("without sign", x.projected(1), 600);
    }

    @Says("KNOWN: ERRORS of CERTAIN ones that were AUDITED;")
    static void terms3_known_errorsOfCertainAuditedOnes() {
        CoinSampler x = Checks.sampled(1);
        due("none audited", x.projected(2), 0);
        x.audit(0, 1);
        due("one", x.projected(2), 999);
        x.audit(5, 0);
        due("both", x.projected(2), 1_699);
        x.audit(1, 0);
        due("not of the rest", x.projected(2), 1_699);
        x.forget(0);
        due("forgotten", x.projected(2), 700);
    }

    @Says("OVER, UNDER likewise.")
    static void terms3_known_overAndUnder() {
        CoinSampler x = Checks.audited(1);
        due("over", x.projected(2), 100);
        due("under", x.projected(3), 50);
        x.audit(0, 1_000);
        x.audit(5, 700);
        due("no error", x.projected(2), 0);
        due("no error", x.projected(3), 0);
        x.audit(0, 2_000);
        x.audit(5, 1_400);
        due("without sign", x.projected(3), 1_700);
        due("none over", x.projected(2), 0);
    }

    // ---- BOUND, BELOW

    @Says("BOUND: BASIC: M times UPPER of n, 0 by 1,000,000, cut.")
    static void terms3_basic_cut() {
        due("890 by 0.776394 is 690.99..", Checks.sampled(1).bound(0), 690);
        due("890 by 0.631597 is 562.12..", Checks.sampled(2).bound(0), 562);
        CoinSampler none = Sentences.single(2, 600, 7);
        none.draw();
        due("no hit: all of M", none.bound(0), 2);
        CoinSampler empty = new CoinSampler();
        empty.interval(1);
        empty.draw();
        due("M is 0", empty.bound(0), 0);
        CoinSampler large = large();
        due("4,799,952 by 0.950001", large.bound(0), 4_559_959);
    }

    /** 4,799,952 coins, a run that hits one of them, all items worth nothing. */
    private static CoinSampler large() {
        CoinSampler x = new CoinSampler();
        for (int i = 0; i < 48; i++) {
            x.add(1, i, 99_999);
            x.audit(i, 0);
        }
        x.terms(0, 9_999_999);
        x.plan();
        x.draw();
        return x;
    }

    @Says("TAINTS above 0 of all HITS, the greatest first, from the first on:")
    static void terms3_rises_theGreatestTaintFirst() {
        CoinSampler x = Checks.sampled(1);
        // 890 by 0.198286 and by 0.025320: 176.47.., 22.53.. of a whole taint.
        x.audit(1, 150);
        x.audit(6, 0);
        due("10,000 first, 5,000 then", x.bound(1), 176 + 11);
        x.audit(1, 0);
        x.audit(6, 45);
        due("the other way round", x.bound(1), 176 + 11);
        x.audit(1, 600);
        due("not those below 0", x.bound(1), 88);
        x.audit(6, 90);
        due("none above 0", x.bound(1), 0);
        x.audit(0, 0);
        x.audit(2, 0);
        due("none that isn't hit", x.bound(1), 0);
    }

    @Says("RISE j (from 1 on): M times (UPPER of n, j less that of n, j less 1) times the TAINT by 10,000,000,000, cut.")
    static void terms3_rises_eachCut_upToAllHits() {
        CoinSampler x = Checks.sampled(1);
        x.audit(1, 0);
        x.audit(6, 0);
        // 176.47.. and 22.53.. are 199.00.. together.
        due("the first", x.taint(0, 2), 176);
        due("the second, by UPPER of 2, 2", x.taint(1, 2), 22);
        due("each is cut", x.bound(1), 198);
        x.audit(6, 90);
        x.audit(1, 254);
        // 890 by 0.198286 by 0.1533: 27.05..
        due("cut but once", x.taint(0, 2), 27);
        CoinSampler large = large();
        // 4,799,952 by 0.049999.
        due("many coins", large.bound(1), 239_992);
    }

    @Says("BOUND is BASIC, all RISES, KNOWN OVER; less KNOWN UNDER, PROJECTED UNDER, if NET is 1.")
    static void terms3_bound_ofItsParts_net() {
        CoinSampler x = Checks.audited(1);
        due("690, 35, 100", x.bound(3), 825);
        x.terms(3, 1);
        due("less 50, 60", x.bound(3), 715);
        x.terms(3, 0);
        due("not net", x.bound(3), 825);
        CoinSampler y = Checks.sampled(1);
        y.audit(5, 1_400);
        y.terms(3, 1);
        due("it may be below 0", y.bound(3), -10);
        CoinSampler z = Sentences.single(300, 600, 7);
        z.draw();
        z.audit(0, 600);
        due("none is certain", z.bound(3), 285);
        z.terms(3, 1);
        due("none is certain, net", z.bound(3), 285 - 600);
        CoinSampler none = new CoinSampler();
        none.add(1, 1, 1_000);
        none.interval(1_000);
        none.draw();
        none.audit(0, 1_500);
        none.terms(3, 1);
        due("no hit, net", none.bound(3), -500);
        due("no hit, net", none.below(3), 500);
        none.audit(0, 900);
        due("no hit, net, the other way round", none.bound(3), 100);
        due("no hit, net, the other way round", none.below(3), -100);
    }

    @Says("It is ACCEPTED, if BOUND is TOLERABLE or less.")
    static void terms3_accepted_boundIsTolerableOrLess() {
        CoinSampler x = Checks.audited(1);
        x.terms(0, 826);
        due("one less", x.judged(), 2);
        x.terms(0, 825);
        due("just tolerable", x.judged(), 2);
        due("just tolerable by the first run", x.step(1, 2), 1);
        due("just tolerable without more", x.more(), 0);
        x.terms(0, 824);
        due("one more", x.judged(), 3);
        due("one more by the first run", x.step(1, 2), 0);
        due("one more asks for a run", x.more(), 1);
    }

    @Says({"BELOW: likewise of TAINTS below 0 without sign, KNOWN UNDER", "(NET takes off KNOWN OVER, PROJECTED OVER)."})
    static void terms3_below_ofItsParts_net() {
        CoinSampler x = Checks.audited(1);
        due("690, 17, 50", x.below(3), 757);
        x.terms(3, 1);
        due("less 100, 120", x.below(3), 537);
        x.terms(3, 0);
        x.audit(1, 600);
        x.audit(6, 135);
        due("the greatest without sign first", x.below(1), 176 + 11);
        x.audit(1, 450);
        x.audit(6, 180);
        due("the other way round", x.below(1), 176 + 11);
        x.audit(1, 0);
        due("not those above 0", x.below(1), 176);
    }

    // ---- on paper, refused

    private static CoinSampler audited3() {
        return Checks.audited(3);
    }

    @Says("ON PAPER nothing changes.")
    static void terms3_onPaper_nothingChanges() {
        Supplier<CoinSampler> made = Terms3Test::audited3;
        keeps(made, "would", x -> x.would(1, 0), made.get().would(1, 0));
        keeps(made, "would of one not audited", x -> x.would(2, 0), made.get().would(2, 0));
        keeps(made, "dearest", CoinSampler::dearest, 0);
        keeps(made, "more", CoinSampler::more, 0);
        keeps(made, "step", x -> x.step(1, 1), 825);
        keeps(made, "risky", CoinSampler::risky, 1);
        keeps(made, "sizes", x -> x.sizes(4), 1);
        keeps(made, "trial", x -> x.trial(201, 2), 2_000);
        keeps(made, "covered", CoinSampler::covered, 1_000);
        keeps(made, "caught", x -> x.caught(1), 210);
        keeps(made, "worst", x -> x.worst(1), 2_000);
        keeps(made, "chance", x -> x.chance(1), 2);
        keeps(made, "were", x -> x.were(9, 3, 3), 5);
        keeps(made, "both", x -> x.both(1, 2), 200);
        keeps(made, "count", x -> x.count(2), 890);
    }

    @Says("Refused calls answer by a code and change nothing:")
    static void terms3_refused_changeNothing() {
        Supplier<CoinSampler> made = Terms3Test::audited3;
        keeps(made, "text below 0", x -> x.text(-1), -3);
        keeps(made, "terms", x -> x.terms(4, -1), -3);
        keeps(made, "add", x -> x.add(1, 1, 100_000), -3);
        keeps(made, "add, a run was drawn", x -> x.add(1, 1, 1), -5);
        keeps(made, "post", x -> x.post(1, 5), REFUSED);
        keeps(made, "audit", x -> x.audit(1, 601), -3);
        keeps(made, "forget", x -> x.forget(7), -2);
        keeps(made, "interval", x -> x.interval(5), -5);
        keeps(made, "plan", CoinSampler::plan, -5);
        keeps(Checks::ledger, "draw", CoinSampler::draw, -5);
    }

    @Says("-2 there is none such;")
    static void terms3_minus2_thereIsNoneSuch() {
        Supplier<CoinSampler> made = Terms3Test::audited3;
        keeps(made, "terms", x -> x.terms(5, 1), -2);
        keeps(made, "audit", x -> x.audit(7, 1), -2);
        keeps(made, "forget", x -> x.forget(-1), -2);
        keeps(made, "coin", x -> x.coin(891, 0), -2);
        keeps(made, "hit", x -> x.hit(4, 0), -2);
        keeps(made, "start", x -> x.start(3), -2);
        keeps(made, "line", x -> x.line(5, 0), -2);
        keeps(made, "taint", x -> x.taint(1, 0), -2);
        keeps(made, "trial", x -> x.trial(1, 4), -2);
        keeps(made, "worst", x -> x.worst(2), -2);
        keeps(made, "chance", x -> x.chance(2), -2);
        keeps(made, "were", x -> x.were(1, 1, 4), -2);
        keeps(made, "both", x -> x.both(1, 0), -2);
    }

    @Says("-3 a number can't be;")
    static void terms3_minus3_aNumberCantBe() {
        Supplier<CoinSampler> made = Terms3Test::audited3;
        keeps(made, "text", x -> x.text(1), -3);
        keeps(made, "terms", x -> x.terms(1, 501), -3);
        keeps(made, "add", x -> x.add(100, 1, 1), -3);
        keeps(made, "audit", x -> x.audit(1, -1), -3);
        keeps(made, "interval", x -> x.interval(0), -3);
        keeps(made, "certain", x -> x.certain(-2), -3);
        keeps(made, "lacking", x -> x.lacking(-2), -3);
        keeps(made, "accounts", x -> x.accounts(-2), -3);
        keeps(made, "drawn", x -> x.drawn(-2), -3);
        keeps(made, "line", x -> x.line(0, -1), -3);
        keeps(made, "upper", x -> x.upper(401, 0), -3);
        keeps(made, "size", x -> x.size(0), -3);
        keeps(made, "sizes", x -> x.sizes(10), -3);
        keeps(made, "trial", x -> x.trial(601, 0), -3);
        keeps(made, "caught", x -> x.caught(-1), -3);
        keeps(made, "were", x -> x.were(0, 1, 0), -3);
    }

    @Says("-4 too many;")
    static void terms3_minus4_tooMany() {
        keeps(Sentences::full, "add", x -> x.add(2, 1, 1), -4);
        keeps(() -> Checks.sampled(5), "draw", CoinSampler::draw, -4);
        keeps(Terms3Test::tooFine, "plan", CoinSampler::plan, -4);
        CoinSampler x = new CoinSampler();
        for (int i = 0; i < 45; i++) {
            x.feed(0, 0, 0, 0, 0);
        }
        due("feed", x.feed(0, 0, 0, 0, 0), -4);
        due("bytes", x.count(7), 900);
    }

    /** No size up to 400 is enough. */
    private static CoinSampler tooFine() {
        CoinSampler x = Checks.ledger();
        x.terms(0, 1);
        return x;
    }

    @Says("-5 it can't be now (what needs an INTERVAL, a RUN, COINS, and there is none);")
    static void terms3_minus5_itCantBeNow() {
        Supplier<CoinSampler> noInterval = Checks::ledger;
        keeps(noInterval, "draw", CoinSampler::draw, -5);
        keeps(noInterval, "coin", x -> x.coin(1, 0), -5);
        keeps(noInterval, "trial", x -> x.trial(1, 0), -5);
        keeps(noInterval, "caught", x -> x.caught(0), -5);
        keeps(noInterval, "worst", x -> x.worst(0), -5);
        keeps(noInterval, "chance", x -> x.chance(0), -5);
        keeps(noInterval, "both", x -> x.both(0, 1), -5);
        Supplier<CoinSampler> noRun = () -> Checks.sampled(0);
        keeps(noRun, "dearest", CoinSampler::dearest, -5);
        keeps(noRun, "more", CoinSampler::more, -5);
        keeps(noRun, "risky", CoinSampler::risky, -5);
        Supplier<CoinSampler> noCoins = CoinSampler::new;
        keeps(noCoins, "plan", CoinSampler::plan, -5);
        keeps(noCoins, "size", x -> x.size(1), -5);
        keeps(noCoins, "sizes", x -> x.sizes(0), -5);
    }

    @Says("-30 less the FAULT: a text (THE TAPE is empty then; nothing else changes).")
    static void terms3_minus30LessTheFault_theTapeIsEmptyThen() {
        String[] texts = {"item 1 1 1;x", "item 100 1 1;", "item 1 1 1;item 1 1 1;"};
        for (int fault = 1; fault <= 3; fault++) {
            CoinSampler x = Checks.audited(3);
            List<Integer> before = Sentences.stateOf(x);
            due("text", Checks.tell(x, texts[fault - 1]), -30 - fault);
            due("bytes on the tape", x.count(7), 0);
            List<Integer> after = Sentences.stateOf(x);
            due("the fault alone is told", after.get(15), fault);
            before.set(15, after.get(15));
            before.set(16, after.get(16));
            Sentences.same("what is there behind the text", after, before);
        }
    }

    @Says("(Of several that which the call tells first;")
    static void terms3_ofSeveral_thatWhichTheCallTellsFirst() {
        CoinSampler x = Checks.ledger();
        due("terms: -2, -3", x.terms(5, -1), -2);
        due("audit: -2, -3", x.audit(7, -1), -2);
        due("audit: -3, -5", x.audit(4, 1), -3);
        due("coin: -2, -5", x.coin(0, 0), -2);
        due("coin: -2, -5", x.coin(1, 3), -2);
        due("line: -2, -3", x.line(0, -1), -2);
        due("trial: -2, -5", x.trial(0, 4), -2);
        due("trial: -5 ahead of -3", x.trial(0, 0), -5);
        due("caught: -3, -5", x.caught(-1), -3);
        due("worst: -2, -5", x.worst(2), -2);
        due("chance: -2, -5", x.chance(2), -2);
        due("were: -2, -3", x.were(0, 0, 4), -2);
        due("both: -2, -5", x.both(0, 4), -2);
        CoinSampler full = Sentences.full();
        due("add: -3, -4", full.add(100, 1, 1), -3);
        due("add: -4, -5", full.add(1, 1, 1), -4);
        CoinSampler drawn = Checks.sampled(1);
        due("add: -3, -5", drawn.add(1, 1, 100_000), -3);
        due("interval: -3, -5", drawn.interval(0), -3);
        drawn.terms(0, 1);
        due("plan: -4, -5", drawn.plan(), -4);
        CoinSampler empty = new CoinSampler();
        due("size: -3, -5", empty.size(0), -3);
        due("sizes: -3, -5", empty.sizes(10), -3);
    }

    @Says("all these ahead of NONE.)")
    static void terms3_refused_aheadOfNone() {
        CoinSampler x = tooFine();
        due("no run, and no item has an error", x.dearest(), -5);
        due("no run, and no risk would do", x.risky(), -5);
        due("no run, and no more would do", x.more(), -5);
        due("none up to 400", x.size(1), NONE);
        due("a number that can't be", x.size(0), -3);
        due("below NONE", x.certain(-2), -3);
        due("below NONE", x.accounts(-2), -3);
        CoinSampler y = Checks.sampled(0);
        due("byte below 0", y.line(0, -1), -3);
        due("byte behind the last", y.line(0, 10), NONE);
    }

    @Says("Where answers may be below 0, -10,000,000 is for -2, -3 and -5.")
    static void terms3_minus10Million_whereAnswersMayBeBelow0() {
        Supplier<CoinSampler> noRun = () -> Checks.sampled(0);
        keeps(noRun, "post: the item", x -> x.post(7, 1), REFUSED);
        keeps(noRun, "post: the book", x -> x.post(0, 100_000), REFUSED);
        keeps(noRun, "item", x -> x.item(7, 0), REFUSED);
        keeps(noRun, "account", x -> x.account(100, 0), REFUSED);
        keeps(noRun, "projected", x -> x.projected(0), REFUSED);
        keeps(noRun, "bound", x -> x.bound(0), REFUSED);
        keeps(noRun, "below", x -> x.below(0), REFUSED);
        keeps(noRun, "would", x -> x.would(0, 0), REFUSED);
        keeps(noRun, "step", x -> x.step(1, 0), REFUSED);
        keeps(Terms3Test::audited3, "post: a run was drawn", x -> x.post(0, 1), REFUSED);
    }
}
