/** Promises 32 to 45: what is asked on paper, and what is counted. */
public final class PaperTest {
    private static final int NONE = Checks.NONE;
    private static final int REFUSED = Checks.REFUSED;

    public static void main(String[] args) {
        would();
        dearest();
        more();
        step();
        risky();
        sizes();
        trial();
        trialRefused();
        covered();
        caught();
        worst();
        chance();
        were();
        both();
        count();
        nothingChanges();
        Checks.end("PaperTest");
    }

    private static void due(String call, long got, long due) {
        Checks.due(call, got, due);
    }

    private static void would() {
        Checks.promise(32);
        CoinSampler x = Checks.audited(1);
        due("as it is", x.would(1, 240), 825);
        due("no taint", x.would(1, 300), 790);
        due("a certain one without an error", x.would(0, 1_000), 725);
        due("a certain one worth nothing", x.would(0, 0), 1_725);
        due("another certain one", x.would(5, 0), 1_525);
        due("one that isn't hit", x.would(2, 0), 825);
        // 890 by 0.198286 by 1 are 176, 890 by 0.02532 by 0.2 are 4.
        due("a greater taint comes first", x.would(6, 0), 970);
        due("worth twice its book", x.would(6, 180), 825);
        due("more than that", x.would(6, 181), REFUSED);
        due("below 0", x.would(6, -1), REFUSED);
        due("no item", x.would(7, 0), REFUSED);
        due("no item", x.would(-1, 0), REFUSED);
        due("no coins", x.would(4, 0), REFUSED);
        due("book below 0", x.would(3, 0), REFUSED);
        due("audited stays", x.item(6, 3), 99);
        due("bound stays", x.bound(3), 825);
        x.forget(6);
        x.would(6, 0);
        due("not audited stays so", x.item(6, 3), NONE);
        x.terms(3, 1);
        due("net: under 50 alone", x.would(1, 300), 740);
        x.clear();
        due("no run", x.would(1, 300), REFUSED);
    }

    private static void dearest() {
        Checks.promise(33);
        CoinSampler x = Checks.audited(1);
        due("725 by item 0, 790 by item 1", x.dearest(), 0);
        x.audit(0, 990);
        due("725 by item 0, 700 by item 1", x.dearest(), 1);
        x.audit(2, 0);
        due("not one that isn't looked at", x.dearest(), 1);
        x.audit(0, 900);
        x.audit(5, 600);
        due("the first of like ones", x.dearest(), 0);
        x.audit(5, 599);
        due("the better one", x.dearest(), 5);
        x.forget(0);
        x.forget(5);
        x.audit(1, 301);
        due("no error above 0", x.dearest(), NONE);
        x.audit(5, 699);
        due("an error of 1", x.dearest(), 5);
        x.clear();
        due("no run", x.dearest(), -5);
        due("no interval", Checks.ledger().dearest(), -5);
    }

    private static void more() {
        Checks.promise(34);
        CoinSampler x = Checks.audited(1);
        int[] tolerable = {825, 824, 703, 702, 608, 607, 537, 536, 482, 481};
        int[] due = {0, 1, 1, 2, 2, 3, 3, 4, 4, NONE};
        for (int i = 0; i < due.length; i++) {
            x.terms(0, tolerable[i]);
            due("more() by " + tolerable[i], x.more(), due[i]);
        }
        x.terms(3, 1);
        x.terms(0, 372);
        due("net takes off 110, as projected by one run", x.more(), 4);
        x.terms(0, 371);
        due("net", x.more(), NONE);
        x.terms(3, 0);
        x.draw();
        x.draw();
        // 5 hits, then 6.
        x.terms(0, 482);
        due("two more", x.more(), 2);
        x.terms(0, 481);
        due("5 in all", x.more(), NONE);
        x.clear();
        due("no run", x.more(), -5);
        CoinSampler small = new CoinSampler();
        small.add(1, 1, 8);
        small.interval(600);
        small.draw();
        small.terms(0, 7);
        due("M by interval is 0", small.more(), NONE);
        small.terms(0, 8);
        due("all coins are tolerable", small.more(), 0);
    }

    private static void step() {
        Checks.promise(35);
        CoinSampler x = Checks.audited(3);
        x.terms(0, 703);
        int[][] due = {{2, 825, 0, 0}, {3, 703, 1, 1}, {4, 608, 1, 1}};
        for (int r = 1; r <= 3; r++) {
            for (int what = 0; what < 4; what++) {
                due("step(" + r + ", " + what + ")", x.step(r, what), due[r - 1][what]);
            }
        }
        x.forget(6);
        x.forget(0);
        due("lacking by one run", x.step(1, 3), 2);
        due("lacking by two", x.step(2, 3), 3);
        x.audit(6, 99);
        x.audit(0, 900);
        x.terms(3, 1);
        due("net, projected by one run", x.step(1, 1), 715);
        due("net, projected by two", x.step(2, 1), 623);
        x.audit(2, 0);
        due("errors of later hits don't count", x.step(1, 1), 715);
        due("r", x.step(0, 0), REFUSED);
        due("r", x.step(4, 0), REFUSED);
        due("r", x.step(-1, 0), REFUSED);
        due("r", x.step(Integer.MIN_VALUE, 0), REFUSED);
        due("what", x.step(1, 4), REFUSED);
        due("what", x.step(1, -1), REFUSED);
        due("runs stay", x.count(4), 3);
    }

    private static void risky() {
        Checks.promise(36);
        CoinSampler x = Checks.audited(1);
        due("any risk", x.risky(), 1);
        x.terms(0, 825);
        due("the risk there is", x.risky(), 50);
        x.terms(0, 824);
        due("a little more", x.risky(), 51);
        // 890 by 0.292894 are 260, by 0.414213 by 0.2 are 73.
        x.terms(0, 433);
        due("the greatest risk", x.risky(), 500);
        x.terms(0, 432);
        due("none", x.risky(), NONE);
        due("risk stays", x.count(11), 50);
        CoinSampler large = new CoinSampler();
        large.add(1, 1, 90_000);
        large.interval(99_999);
        large.draw();
        large.terms(0, 45_000);
        due("a half of 90,000", large.risky(), 500);
        // 501 thousandths would do, but no such risk may be told.
        large.terms(0, 44_999);
        due("none", large.risky(), NONE);
        x.terms(3, 1);
        due("net", x.risky() < 500 ? 1 : 0, 1);
        x.clear();
        due("no run", x.risky(), -5);
    }

    private static void sizes() {
        Checks.promise(37);
        CoinSampler x = Checks.ledger();
        x.terms(0, 2_010);
        due("0 expected", x.sizes(0), 2);
        // 0.864650 by 3 is too much, 0.751396 by 4 is not.
        due("1 expected", x.sizes(1), 4);
        due("9 expected", x.sizes(9) > x.sizes(8) ? 1 : 0, 1);
        x.terms(2, 1);
        due("by the term", x.size(2_010), 4);
        due("not by the term", x.sizes(0), 2);
        x.terms(0, 2_590);
        due("all coins", x.sizes(9), 1);
        x.terms(0, 18);
        due("none up to 400", x.sizes(0), NONE);
        due("below 0", x.sizes(-1), -3);
        due("above", x.sizes(10), -3);
        due("no coins", new CoinSampler().sizes(0), -5);
        due("no coins, a number that can't be", new CoinSampler().sizes(10), -3);
    }

    private static void trials(CoinSampler x, int start, int... due) {
        for (int what = 0; what < due.length; what++) {
            due("trial(" + start + ", " + what + ")", x.trial(start, what), due[what]);
        }
    }

    private static void trial() {
        Checks.promise(38);
        CoinSampler x = Checks.audited(1);
        trials(x, 1, 2, 1, 2_000, 601);
        trials(x, 200, 2, 1, 2_000, 800);
        trials(x, 201, 2, 0, 2_000, 801);
        trials(x, 290, 2, 0, 2_000, 890);
        trials(x, 291, 1, 0, 2_000, 291);
        trials(x, 301, 1, 1, 0, 301);
        trials(x, 600, 1, 1, 0, 600);
        x.audit(6, 45);
        due("taints together", x.trial(201, 2), 7_000);
        x.forget(0);
        due("certain ones aren't audited", x.trial(201, 1), 1);
        CoinSampler small = new CoinSampler();
        small.add(1, 1, 8);
        small.interval(600);
        trials(small, 8, 1, 1, 0, 8);
        trials(small, 9, 0, 0, 0, 0);
    }

    private static void trialRefused() {
        Checks.promise(38);
        CoinSampler x = Checks.sampled(0);
        due("start", x.trial(0, 0), -3);
        due("start", x.trial(601, 0), -3);
        due("start", x.trial(-5, 0), -3);
        due("what", x.trial(1, 4), -2);
        due("what, ahead of the start", x.trial(0, -1), -2);
        due("no interval, ahead of the start", Checks.ledger().trial(0, 0), -5);
        due("what, ahead of no interval", Checks.ledger().trial(0, 4), -2);
    }

    private static void covered() {
        Checks.promise(39);
        due("certain ones", Checks.sampled(0).covered(), 656);
        due("2,090 of 2,590", Checks.sampled(1).covered(), 806);
        due("all", Checks.sampled(2).covered(), 1_000);
        due("no interval", Checks.ledger().covered(), 0);
        CoinSampler none = new CoinSampler();
        none.add(1, 1, -4);
        none.interval(1);
        due("no coins", none.covered(), 0);
        CoinSampler many = new CoinSampler();
        for (int i = 0; i < 48; i++) {
            many.add(1, i, 99_999);
        }
        many.interval(99_999);
        due("very many coins", many.covered(), 1_000);
    }

    private static void caught() {
        Checks.promise(40);
        CoinSampler x = Checks.audited(1);
        int[] due = {300, 210, 90, 0};
        for (int k = 0; k < due.length; k++) {
            due("caught(" + k + ")", x.caught(k), due[k]);
        }
        due("far above", x.caught(Integer.MAX_VALUE), 0);
        x.audit(1, 300);
        due("no error", x.caught(0), 510);
        due("an error below 0 alone", x.caught(1), 90);
        x.forget(6);
        due("no error at all", x.caught(0), 600);
        due("below 0", x.caught(-1), -3);
        due("no interval", Checks.ledger().caught(0), -5);
        due("no interval, a number that can't be", Checks.ledger().caught(-1), -3);
        CoinSampler small = new CoinSampler();
        small.add(1, 1, 99_998);
        small.interval(99_999);
        small.audit(0, 99_997);
        due("an error without a taint", small.caught(1), 99_998);
    }

    private static void worst() {
        Checks.promise(41);
        CoinSampler x = Checks.audited(1);
        due("the lowest of like ones", x.worst(0), 1);
        due("how much", x.worst(1), 2_000);
        x.audit(6, 45);
        due("items 1 and 6", x.worst(0), 201);
        due("how much", x.worst(1), 7_000);
        x.forget(1);
        x.forget(6);
        x.audit(2, 0);
        due("item 2 by its last coins", x.worst(0), 1);
        x.audit(1, 600);
        due("taints below 0 don't count", x.worst(0), 1);
        due("how much", x.worst(1), 10_000);
        x.audit(2, 1_000);
        due("no taint", x.worst(0), 1);
        due("how much", x.worst(1), 0);
        due("what", x.worst(2), -2);
        due("what", x.worst(-1), -2);
        due("no interval", Checks.ledger().worst(0), -5);
        due("what, ahead of no interval", Checks.ledger().worst(2), -2);
        CoinSampler late = new CoinSampler();
        late.add(1, 1, 5);
        late.add(1, 2, 2);
        late.interval(600);
        late.audit(1, 0);
        due("the first coin of the second item", late.worst(0), 6);
        late.add(1, 3, 2);
        late.audit(2, 1);
        due("not a later one of less", late.worst(0), 6);
        late.audit(1, 1);
        late.audit(2, 0);
        due("a later one of more", late.worst(0), 8);
    }

    private static void chance() {
        Checks.promise(42);
        CoinSampler x = Checks.audited(1);
        due("300 of 600", x.chance(0), 1);
        due("300 of 600", x.chance(1), 2);
        x.audit(1, 300);
        due("90 of 600", x.chance(0), 3);
        due("90 of 600", x.chance(1), 20);
        x.forget(6);
        due("none", x.chance(0), 0);
        due("none by 1", x.chance(1), 1);
        x.audit(1, 0);
        x.audit(2, 0);
        due("all", x.chance(0), 1);
        due("all", x.chance(1), 1);
        due("what", x.chance(2), -2);
        due("what", x.chance(-1), -2);
        due("no interval", Checks.ledger().chance(0), -5);
        due("what, ahead of no interval", Checks.ledger().chance(2), -2);
    }

    private static void weres(CoinSampler x, int v, int start, int... due) {
        for (int what = 0; what < due.length; what++) {
            due("were(" + v + ", " + start + ", " + what + ")", x.were(v, start, what), due[what]);
        }
    }

    private static void were() {
        Checks.promise(43);
        CoinSampler x = Checks.audited(1);
        weres(x, 700, 300, 2, 890, 1, 3);
        weres(x, 701, 1, 1, 1_590, 3, 3);
        weres(x, 701, 199, 1, 1_590, 2, 3);
        weres(x, 701, 100, 1, 1_590, 3, 4);
        weres(x, 1, 1, 5, 0, 0, 4);
        weres(x, 9_999_999, 9_999_999, 0, 2_590, 0, 0);
        weres(x, 9_999_999, 2_590, 0, 2_590, 1, 1);
        weres(Checks.ledger(), 700, 300, 2, 890, 1, 0);
        due("v", x.were(0, 1, 0), -3);
        due("v", x.were(10_000_000, 1, 0), -3);
        due("start", x.were(5, 6, 0), -3);
        due("start", x.were(5, 0, 0), -3);
        due("what", x.were(5, 5, 4), -2);
        due("what, ahead of v", x.were(0, 0, -1), -2);
        due("interval stays", x.count(3), 600);
        due("M stays", x.count(2), 890);
        due("first coin stays", x.item(6, 8), 801);
    }

    private static void both() {
        Checks.promise(44);
        CoinSampler x = Checks.sampled(1);
        int[] rest = {1, 2, 6};
        int[][] due = {{300, 200, 90}, {200, 500, 0}, {90, 0, 90}};
        for (int a = 0; a < 3; a++) {
            for (int b = 0; b < 3; b++) {
                due("both(" + rest[a] + ", " + rest[b] + ")", x.both(rest[a], rest[b]), due[a][b]);
            }
        }
        int[] others = {0, 3, 4, 5, 7, -1};
        for (int other : others) {
            due("both(1, " + other + ")", x.both(1, other), -2);
            due("both(" + other + ", 1)", x.both(other, 1), -2);
        }
        due("no interval", Checks.ledger().both(0, 1), -5);
        due("no interval, an item without coins", Checks.ledger().both(0, 4), -2);
    }

    private static void count() {
        Checks.promise(45);
        CoinSampler x = Checks.audited(3);
        x.feed(0, 0, 0, 0, 0);
        x.terms(0, 12);
        x.terms(1, 34);
        x.terms(2, 5);
        x.terms(3, 1);
        int[] due = {7, 2_590, 890, 600, 3, 4, 3, 20, 4, 31_796, 12, 34, 5, 1, 7};
        for (int what = 0; what < due.length; what++) {
            due("count(" + what + ")", x.count(what), due[what]);
        }
        due("count(15)", x.count(15), NONE);
        due("count(-1)", x.count(-1), NONE);
        CoinSampler first = new CoinSampler();
        first.add(1, 1, 5);
        first.interval(6);
        first.draw();
        due("the first item is hit", first.count(6), 1);
        CoinSampler y = Checks.ledger();
        due("no interval: all coins are of the rest", y.count(2), 2_590);
    }

    private static void nothingChanges() {
        Checks.promise(32);
        CoinSampler x = Checks.audited(3);
        long before = state(x);
        x.would(1, 0);
        x.dearest();
        x.more();
        x.step(1, 1);
        x.risky();
        x.sizes(4);
        x.trial(5, 2);
        x.covered();
        x.caught(1);
        x.worst(1);
        x.chance(1);
        x.were(9, 3, 3);
        x.both(1, 2);
        due("the state", state(x), before);
    }

    private static long state(CoinSampler x) {
        long state = 0;
        for (int what = 0; what < 15; what++) {
            state = 31 * state + x.count(what);
        }
        for (int i = 0; i < x.count(0); i++) {
            for (int what = 0; what < 9; what++) {
                state = 31 * state + x.item(i, what);
            }
        }
        for (int k = 0; k < x.count(5); k++) {
            for (int what = 0; what < 4; what++) {
                state = 31 * state + x.hit(k, what);
            }
        }
        for (int what = 0; what < 5; what++) {
            state = 31 * state + x.bound(what);
        }
        return state;
    }
}
