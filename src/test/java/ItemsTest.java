/** Promises 14 to 24: items, coins, hits, the lists, accounts, lines. */
public final class ItemsTest {
    private static final int NONE = Checks.NONE;
    private static final int REFUSED = Checks.REFUSED;

    public static void main(String[] args) {
        find();
        item();
        itemRefused();
        coin();
        hit();
        start();
        certain();
        lacking();
        account();
        accounts();
        drawn();
        line();
        Checks.end("ItemsTest");
    }

    private static void due(String call, long got, long due) {
        Checks.due(call, got, due);
    }

    private static void find() {
        Checks.promise(14);
        CoinSampler x = Checks.ledger();
        due("the first", x.find(1, 10), 0);
        due("the last", x.find(2, 16), 6);
        due("no coins", x.find(3, 14), 4);
        due("another account", x.find(2, 10), NONE);
        due("another voucher", x.find(1, 12), NONE);
        due("what can't be", x.find(-1, 10_000), NONE);
    }

    private static void items(CoinSampler x, int item, int... due) {
        for (int what = 0; what < due.length; what++) {
            due("item(" + item + ", " + what + ")", x.item(item, what), due[what]);
        }
    }

    private static void item() {
        Checks.promise(15);
        CoinSampler x = Checks.audited(1);
        items(x, 0, 1, 10, 1_000, 900, 100, 1_000, 1, 0, 0);
        items(x, 1, 1, 11, 300, 240, 60, 2_000, 0, 1, 1);
        items(x, 2, 2, 12, 500, NONE, 0, 0, 0, 0, 301);
        items(x, 3, 2, 13, -200, NONE, 0, 0, 0, 0, 0);
        items(x, 4, 3, 14, 0, NONE, 0, 0, 0, 0, 0);
        items(x, 5, 4, 15, 700, 750, -50, -714, 1, 0, 0);
        items(x, 6, 2, 16, 90, 99, -9, -1_000, 0, 1, 801);
        x.audit(1, 299);
        due("taint cut towards 0", x.item(1, 5), 33);
        x.audit(1, 301);
        due("taint cut towards 0", x.item(1, 5), -33);
        x.audit(1, 0);
        due("the whole taint", x.item(1, 5), 10_000);
        x.audit(1, 600);
        due("the whole taint below 0", x.item(1, 5), -10_000);
        x.audit(1, 300);
        due("no error", x.item(1, 4), 0);
        x.draw();
        x.draw();
        due("hit by two runs", x.item(2, 7), 2);
        CoinSampler y = Checks.ledger();
        due("no interval: none is certain", y.item(0, 6), 0);
        due("no interval: all coins are of the rest", y.item(1, 8), 1_001);
        y.post(1, 1);
        due("one coin", y.item(1, 8), 1_001);
        due("behind one coin", y.item(2, 8), 1_002);
    }

    private static void itemRefused() {
        Checks.promise(15);
        CoinSampler x = Checks.sampled(1);
        due("no item", x.item(7, 0), REFUSED);
        due("no item", x.item(-1, 0), REFUSED);
        due("what", x.item(0, 9), REFUSED);
        due("what", x.item(0, -1), REFUSED);
        due("both", x.item(48, 9), REFUSED);
    }

    private static void coin() {
        Checks.promise(16);
        CoinSampler x = Checks.sampled(2);
        int[] coins = {1, 300, 301, 800, 801, 890};
        int[] owners = {1, 1, 2, 2, 6, 6};
        for (int i = 0; i < coins.length; i++) {
            due("owner of " + coins[i], x.coin(coins[i], 0), owners[i]);
        }
        due("stretch of 1", x.coin(1, 1), 0);
        due("stretch of 600", x.coin(600, 1), 0);
        due("stretch of 601", x.coin(601, 1), 1);
        due("hit", x.coin(267, 2), 1);
        due("hit", x.coin(867, 2), 1);
        due("hit by the other", x.coin(478, 2), 1);
        due("not hit", x.coin(268, 2), 0);
        x.clear();
        x.terms(4, 7);
        x.draw();
        due("hit anew", x.coin(867, 2), 1);
        due("hit by a run that is no more", x.coin(478, 2), 0);
        due("coin 0", x.coin(0, 0), -2);
        due("coin -1", x.coin(-1, 0), -2);
        due("behind the last", x.coin(891, 0), -2);
        due("what", x.coin(1, 3), -2);
        due("what", x.coin(1, -1), -2);
        CoinSampler y = Checks.ledger();
        due("no interval", y.coin(2_590, 0), -5);
        due("no coin, ahead of no interval", y.coin(2_591, 0), -2);
        due("no what, ahead of no interval", y.coin(1, 3), -2);
        due("no coin", new CoinSampler().coin(1, 0), -2);
    }

    private static void hits(CoinSampler x, int k, int... due) {
        for (int what = 0; what < due.length; what++) {
            due("hit(" + k + ", " + what + ")", x.hit(k, what), due[what]);
        }
    }

    private static void hit() {
        Checks.promise(17);
        CoinSampler x = Checks.audited(3);
        hits(x, 0, 1, 267, 0, 12_000);
        hits(x, 1, 6, 867, 0, 9_000);
        hits(x, 2, 2, 478, 1, 10_000);
        hits(x, 3, 2, 597, 2, 10_000);
        due("a fifth", x.hit(4, 0), -2);
        due("below 0", x.hit(-1, 0), -2);
        due("what", x.hit(0, 4), -2);
        due("what", x.hit(0, -1), -2);
        due("no run", Checks.sampled(0).hit(0, 0), -2);
        CoinSampler edge = new CoinSampler();
        edge.add(1, 1, 9);
        edge.interval(10);
        edge.terms(4, 6);
        // 6 times 1,103 and 12,345 is 18,963, so the start is 4.
        due("start", edge.draw(), 4);
        edge.post(0, 4);
        due("post is refused", edge.item(0, 2), 9);
        edge.clear();
        edge.post(0, 4);
        edge.terms(4, 6);
        due("start at the last coin", edge.draw(), 4);
        due("it is hit", edge.hit(0, 1), 4);
        edge.clear();
        edge.post(0, 3);
        edge.terms(4, 6);
        due("start behind the last coin", edge.draw(), 4);
        due("nothing is hit", edge.hit(0, 1), -2);
        due("hits", edge.count(5), 0);
    }

    private static void start() {
        Checks.promise(18);
        CoinSampler x = Checks.sampled(3);
        due("start(0)", x.start(0), 267);
        due("start(1)", x.start(1), 478);
        due("start(2)", x.start(2), 597);
        due("start(3)", x.start(3), -2);
        due("start(-1)", x.start(-1), -2);
    }

    private static void certain() {
        Checks.promise(19);
        CoinSampler x = Checks.sampled(1);
        due("how many", x.certain(NONE), 2);
        due("certain(0)", x.certain(0), 0);
        due("certain(1)", x.certain(1), 5);
        due("certain(2)", x.certain(2), NONE);
        due("below NONE", x.certain(-2), -3);
        CoinSampler y = Checks.ledger();
        due("no interval", y.certain(NONE), 0);
        due("no interval", y.certain(0), NONE);
        y.interval(700);
        due("as large as it", y.certain(1), 5);
        y.interval(1);
        due("not those without coins", y.certain(NONE), 5);
    }

    private static void lacking() {
        Checks.promise(20);
        CoinSampler x = Checks.sampled(1);
        due("how many", x.lacking(NONE), 4);
        x.audit(1, 0);
        x.audit(2, 0);
        due("how many", x.lacking(NONE), 3);
        due("lacking(0)", x.lacking(0), 0);
        due("lacking(1)", x.lacking(1), 5);
        due("lacking(2)", x.lacking(2), 6);
        due("lacking(3)", x.lacking(3), NONE);
        due("below NONE", x.lacking(-2), -3);
        due("no run: the certain ones", Checks.sampled(0).lacking(NONE), 2);
        due("no interval", Checks.ledger().lacking(NONE), 0);
    }

    private static void accountOf(CoinSampler x, int account, int... due) {
        for (int what = 0; what < due.length; what++) {
            due("account(" + account + ", " + what + ")", x.account(account, what), due[what]);
        }
    }

    private static void account() {
        Checks.promise(21);
        CoinSampler x = Checks.audited(3);
        // Taint 2,000 times 600 by 30,000 is 40; -1,000 likewise -20.
        accountOf(x, 1, 2, 1_300, 1, 160, 1, 40);
        accountOf(x, 2, 3, 390, 3, -9, 0, -20);
        accountOf(x, 3, 1, 0, 0, 0, 0, 0);
        accountOf(x, 4, 1, 700, 0, -50, 1, 0);
        accountOf(x, 0, 0, 0, 0, 0, 0, 0);
        accountOf(x, 99, 0, 0, 0, 0, 0, 0);
        x.audit(2, 250);
        due("two hits: 5,000 times 600 by 30,000, twice, less 20", x.account(2, 5), 180);
        x.audit(2, 499);
        // Each hit is cut by itself: 20 times 600 by 30,000 is 0.
        due("cut hit by hit", x.account(2, 5), -20);
        due("account", x.account(100, 0), REFUSED);
        due("account", x.account(-1, 0), REFUSED);
        due("what", x.account(1, 6), REFUSED);
        due("what", x.account(1, -1), REFUSED);
        x.clear();
        due("no run", x.account(1, 5), 0);
        due("no run", x.account(1, 2), 0);
        CoinSampler y = Checks.ledger();
        y.post(2, -400);
        due("book below 0", y.account(2, 1), -510);
        due("no interval", y.account(1, 4), 0);
    }

    private static void accounts() {
        Checks.promise(22);
        CoinSampler x = new CoinSampler();
        due("none", x.accounts(NONE), 0);
        due("none", x.accounts(0), NONE);
        x.add(50, 1, 1);
        x.add(7, 1, 1);
        x.add(50, 2, 1);
        x.add(0, 1, -1);
        x.add(7, 2, 1);
        due("how many", x.accounts(NONE), 3);
        due("accounts(0)", x.accounts(0), 50);
        due("accounts(1)", x.accounts(1), 7);
        due("accounts(2)", x.accounts(2), 0);
        due("accounts(3)", x.accounts(3), NONE);
        due("below NONE", x.accounts(-2), -3);
    }

    private static void drawn() {
        Checks.promise(23);
        CoinSampler x = Checks.audited(1);
        due("how many", x.drawn(NONE), 4);
        int[] due = {0, 1, 5, 6, NONE};
        for (int k = 0; k < due.length; k++) {
            due("drawn(" + k + ")", x.drawn(k), due[k]);
        }
        due("below NONE", x.drawn(-2), -3);
        x.draw();
        due("one more", x.drawn(NONE), 5);
        due("rising", x.drawn(2), 2);
        due("no run", Checks.sampled(0).drawn(NONE), 2);
        due("no interval", Checks.ledger().drawn(NONE), 0);
    }

    private static void lineOf(CoinSampler x, int k, String line) {
        for (int i = 0; i < line.length(); i++) {
            due("byte " + i + " of " + line, x.line(k, i), line.charAt(i));
        }
        due("behind " + line, x.line(k, line.length()), NONE);
        due("far behind " + line, x.line(k, Integer.MAX_VALUE), NONE);
    }

    private static void line() {
        Checks.promise(24);
        CoinSampler x = Checks.audited(3);
        lineOf(x, 0, "1/10 1000! =900");
        lineOf(x, 1, "1/11 300x1 =240");
        lineOf(x, 2, "2/12 500x2");
        lineOf(x, 3, "4/15 700! =750");
        lineOf(x, 4, "2/16 90x1 =99");
        due("a sixth", x.line(5, 0), -2);
        due("below 0", x.line(-1, 0), -2);
        due("byte below 0", x.line(0, -1), -3);
        due("no line, ahead of the byte", x.line(5, -1), -2);
        x.forget(0);
        lineOf(x, 0, "1/10 1000!");
        x.audit(0, 0);
        lineOf(x, 0, "1/10 1000! =0");
        CoinSampler y = new CoinSampler();
        y.add(0, 0, 1);
        y.add(99, 9_999, 99_999);
        y.interval(1);
        y.audit(1, 199_998);
        lineOf(y, 0, "0/0 1!");
        lineOf(y, 1, "99/9999 99999! =199998");
        due("without items", new CoinSampler().line(0, 0), -2);
    }
}
