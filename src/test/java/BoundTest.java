/** Promises 25 to 31: upper bounds, sizes, what the hits make for all, the judgement. */
public final class BoundTest {
    private static final int NONE = Checks.NONE;
    private static final int REFUSED = Checks.REFUSED;

    public static void main(String[] args) {
        upper();
        upperByRisk();
        size();
        upperFalls();
        projected();
        projectedCut();
        taint();
        bound();
        boundOfManyHits();
        below();
        judged();
        Checks.end("BoundTest");
    }

    private static void due(String call, long got, long due) {
        Checks.due(call, got, due);
    }

    private static void upper() {
        Checks.promise(25);
        CoinSampler x = new CoinSampler();
        // 0.95 itself leaves a little more than 0.05, by doubles.
        due("1, 0", x.upper(1, 0), 950_001);
        due("2, 0: 1 less the root of 0.05", x.upper(2, 0), 776_394);
        due("2, 1: the root of 0.95", x.upper(2, 1), 974_680);
        due("3, 0", x.upper(3, 0), 631_597);
        due("400, 0", x.upper(400, 0), 7_462);
        due("400, 399", x.upper(400, 399), PlainSampler.upperOf(400, 399, 50));
        due("400, 200", x.upper(400, 200), PlainSampler.upperOf(400, 200, 50));
        due("400, 400", x.upper(400, 400), 1_000_000);
        due("5, 6", x.upper(5, 6), 1_000_000);
        due("0, 0", x.upper(0, 0), 1_000_000);
        due("n", x.upper(-1, 0), -3);
        due("n", x.upper(401, 0), -3);
        due("k", x.upper(1, -1), -3);
        due("k", x.upper(1, 401), -3);
    }

    private static void upperByRisk() {
        Checks.promise(25);
        CoinSampler x = new CoinSampler();
        int[] risks = {1, 2, 50, 333, 499, 500};
        int[] ns = {1, 2, 7, 48, 240, 400};
        int[] ks = {0, 1, 2, 6, 30};
        for (int risk : risks) {
            x.terms(1, risk);
            for (int n : ns) {
                for (int k : ks) {
                    due("upper(" + n + ", " + k + ") by " + risk, x.upper(n, k), PlainSampler.upperOf(n, k, risk));
                }
            }
        }
        due("the half of one", x.upper(1, 0), 500_000);
    }

    private static int plainSize(int coins, int tolerable, int expect, int risk) {
        for (int n = 1; n <= 400; n++) {
            if ((long) coins * PlainSampler.upperOf(n, expect, risk) / 1_000_000 <= tolerable) {
                return n;
            }
        }
        return NONE;
    }

    private static void size() {
        Checks.promise(26);
        CoinSampler x = Checks.ledger();
        due("2,590 by 0.950001 are 2,460", x.size(2_460), 1);
        due("2,590 by 0.776394 are 2,010", x.size(2_459), 2);
        due("2,010", x.size(2_010), 2);
        due("2,590 by 0.631597 are 1,635", x.size(2_009), 3);
        due("2,590 by 0.007722 are 19", x.size(19), 387);
        due("upper(387, 0)", x.upper(387, 0) < 7_723 ? 1 : 0, 1);
        due("upper(386, 0)", x.upper(386, 0) < 7_723 ? 1 : 0, 0);
        due("none up to 400", x.size(18), NONE);
        CoinSampler y = new CoinSampler();
        y.add(1, 1, 99_999);
        due("99,999 by 0.007462 are 746", y.size(746), 400);
        due("one less", y.size(745), NONE);
        due("0", x.size(0), -3);
        due("above", x.size(10_000_000), -3);
        due("the greatest", x.size(9_999_999), 1);
        x.terms(0, 1);
        due("not of the term", x.size(2_010), 2);
        x.terms(2, 2);
        due("2 expected", x.size(2_589), plainSize(2_590, 2_589, 2, 50));
        due("all coins", x.size(2_590), 1);
        for (int expect = 0; expect < 10; expect += 3) {
            x.terms(2, expect);
            for (int tolerable = 10; tolerable < 2_590; tolerable += 97) {
                due("size(" + tolerable + ")", x.size(tolerable), plainSize(2_590, tolerable, expect, 50));
            }
        }
        due("no coins", new CoinSampler().size(5), -5);
        due("no coins, a number that can't be", new CoinSampler().size(0), -3);
    }

    // The program looks for a size by halving, which is right as long as upper bounds fall.
    private static void upperFalls() {
        Checks.promise(26);
        for (int risk : new int[] {1, 7, 50, 250, 500}) {
            for (int k = 0; k < 10; k++) {
                CoinSampler x = new CoinSampler();
                x.terms(1, risk);
                int rising = 0;
                int ahead = x.upper(k, k);
                for (int n = k + 1; n <= 400; n++) {
                    int upper = x.upper(n, k);
                    rising += upper >= ahead ? 1 : 0;
                    ahead = upper;
                }
                due("upper bounds that rise by " + risk + ", " + k, rising, 0);
            }
        }
    }

    private static void projected() {
        Checks.promise(27);
        CoinSampler x = Checks.audited(1);
        int[] due = {120, 60, 100, 50, 110};
        for (int what = 0; what < due.length; what++) {
            due("projected(" + what + ")", x.projected(what), due[what]);
        }
        x.draw();
        due("over, by two runs", x.projected(0), 60);
        due("under, by two runs", x.projected(1), 30);
        due("known over stays", x.projected(2), 100);
        x.audit(2, 250);
        due("a hit by the second", x.projected(0), 210);
        x.forget(0);
        due("known of those audited alone", x.projected(2), 0);
        due("what", x.projected(5), REFUSED);
        due("what", x.projected(-1), REFUSED);
        x.clear();
        due("no run", x.projected(3), REFUSED);
        due("no interval", Checks.ledger().projected(0), REFUSED);
    }

    private static void projectedCut() {
        Checks.promise(27);
        CoinSampler x = Checks.sampled(3);
        // 20 times 600 by 30,000 is cut to 0 for each of the two hits.
        x.audit(2, 499);
        due("over, cut", x.projected(0), 0);
        x.audit(2, 501);
        due("under, cut towards 0", x.projected(1), 0);
        x.audit(2, 497);
        due("60 by 50 is 1, twice", x.projected(0), 2);
        x.audit(2, 503);
        due("under likewise", x.projected(1), 2);
        due("over", x.projected(0), 0);
        due("together", x.projected(4), -2);
        due("not what isn't hit", hitsOfUnhit(), 0);
    }

    private static int hitsOfUnhit() {
        CoinSampler x = Checks.sampled(1);
        x.audit(2, 0);
        return x.projected(0);
    }

    private static void taints(CoinSampler x, int k, int... due) {
        for (int what = 0; what < due.length; what++) {
            due("taint(" + k + ", " + what + ")", x.taint(k, what), due[what]);
        }
    }

    private static void taint() {
        Checks.promise(28);
        CoinSampler x = Checks.audited(3);
        // M is 890; upper(4, 1) less upper(4, 0) is 751,396 less 527,130.
        due("upper(4, 0)", x.upper(4, 0), 527_130);
        due("upper(4, 1)", x.upper(4, 1), 751_396);
        taints(x, 0, 0, 2_000, 39);
        due("one alone", x.taint(1, 0), -2);
        x.audit(2, 400);
        taints(x, 0, 0, 2_000, 39);
        taints(x, 1, 2, 2_000, (int) (890L * (x.upper(4, 2) - x.upper(4, 1)) * 2_000 / 10_000_000_000L));
        taints(x, 2, 3, 2_000, (int) (890L * (x.upper(4, 3) - x.upper(4, 2)) * 2_000 / 10_000_000_000L));
        due("three", x.taint(3, 0), -2);
        x.audit(2, 399);
        taints(x, 0, 2, 2_020, (int) (890L * 224_266 * 2_020 / 10_000_000_000L));
        due("the second", x.taint(1, 0), 3);
        due("the least is the last", x.taint(2, 0), 0);
        due("its taint", x.taint(2, 1), 2_000);
        due("k", x.taint(-1, 0), -2);
        due("the least taint", leastTaint(), 1);
        due("what", x.taint(0, 3), -2);
        due("what", x.taint(0, -1), -2);
        x.clear();
        due("no run", x.taint(0, 0), -2);
    }

    private static int leastTaint() {
        CoinSampler x = new CoinSampler();
        x.add(1, 1, 10_000);
        x.interval(10_001);
        x.audit(0, 9_999);
        x.draw();
        return x.taint(0, 1);
    }

    private static void bound() {
        Checks.promise(29);
        CoinSampler x = Checks.audited(1);
        // 890 by 0.776394 are 690; 890 by 0.198286 by 0.2 are 35.
        int[] due = {690, 35, 100, 825, 50_000 - 825};
        for (int what = 0; what < due.length; what++) {
            due("bound(" + what + ")", x.bound(what), due[what]);
        }
        x.terms(3, 1);
        due("net takes off 50 and 60", x.bound(3), 715);
        x.terms(0, 700);
        due("what is left", x.bound(4), -15);
        x.terms(3, 0);
        x.terms(1, 500);
        due("by a risk of a half", x.bound(0), 890 * x.upper(2, 0) / 1_000_000);
        due("what", x.bound(5), REFUSED);
        due("what", x.bound(-1), REFUSED);
        x.clear();
        due("no run", x.bound(3), REFUSED);
        CoinSampler none = new CoinSampler();
        none.interval(5);
        none.draw();
        due("no hit at all: M is 0", none.bound(3), 0);
        CoinSampler few = new CoinSampler();
        few.add(1, 1, 2);
        few.interval(600);
        few.draw();
        due("start behind M: no hit", few.count(5), 0);
        due("all coins", few.bound(0), 2);
    }

    // Each run hits nearly all of the 48 items.
    private static void boundOfManyHits() {
        Checks.promise(29);
        CoinSampler x = new CoinSampler();
        PlainSampler plain = new PlainSampler();
        for (int i = 0; i < 48; i++) {
            x.add(i, i, 99_998 - i);
            plain.add(i, i, 99_998 - i);
            x.audit(i, 2_000 * i);
            plain.audit(i, 2_000 * i);
        }
        x.interval(99_999);
        plain.interval(99_999);
        for (int r = 0; r < 5; r++) {
            due("draw", x.draw(), plain.draw());
        }
        due("hits", x.count(5), plain.count(5));
        for (int what = 0; what < 5; what++) {
            due("bound(" + what + ")", x.bound(what), plain.bound(what));
        }
        due("the last rise", x.taint(200, 2), plain.taint(200, 2));
        due("projected", x.projected(0), plain.projected(0));
        due("risky", x.risky(), plain.risky());
        due("dearest", x.dearest(), plain.dearest());
    }

    private static void below() {
        Checks.promise(30);
        CoinSampler x = Checks.audited(1);
        int[] due = {690, 17, 50, 757};
        for (int what = 0; what < due.length; what++) {
            due("below(" + what + ")", x.below(what), due[what]);
        }
        x.terms(3, 1);
        due("net takes off 100 and 120", x.below(3), 537);
        due("what", x.below(4), REFUSED);
        due("what", x.below(-1), REFUSED);
        x.terms(3, 0);
        x.draw();
        x.audit(2, 1_000);
        // n is 3: the greatest taint without sign, 10,000, comes first; then 1,000.
        int first = (int) (890L * (x.upper(3, 1) - x.upper(3, 0)) * 10_000 / 10_000_000_000L);
        int second = (int) (890L * (x.upper(3, 2) - x.upper(3, 1)) * 1_000 / 10_000_000_000L);
        due("the greatest first", x.below(1), first + second);
        x.clear();
        due("no run", x.below(3), REFUSED);
    }

    private static void judged() {
        Checks.promise(31);
        CoinSampler x = Checks.ledger();
        due("no interval", x.judged(), 0);
        x.interval(600);
        due("no run", x.judged(), 0);
        x.draw();
        due("lacking", x.judged(), 1);
        x.audit(0, 1_000);
        x.audit(5, 700);
        due("those that are hit are lacking", x.judged(), 1);
        x.audit(1, 300);
        x.audit(6, 90);
        due("nothing is", x.judged(), 2);
        CoinSampler y = Checks.audited(1);
        due("accepted", y.judged(), 2);
        y.terms(0, 825);
        due("just tolerable", y.judged(), 2);
        y.terms(0, 824);
        due("not accepted", y.judged(), 3);
        y.terms(3, 1);
        due("net", y.judged(), 2);
        y.forget(5);
        due("a certain one is lacking", y.judged(), 1);
    }
}
