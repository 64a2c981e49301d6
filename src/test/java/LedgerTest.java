/** Promises 1 to 13: telling a ledger, terms, changing it, drawing. */
public final class LedgerTest {
    private static final int NONE = Checks.NONE;
    private static final int REFUSED = Checks.REFUSED;

    public static void main(String[] args) {
        newObject();
        feed();
        text();
        textWhatStays();
        fault();
        faultsOfForm();
        faultsOfNumbers();
        faultsOfMeaning();
        terms();
        add();
        post();
        audit();
        forget();
        interval();
        plan();
        planRefused();
        draw();
        drawnAgain();
        clear();
        Checks.end("LedgerTest");
    }

    private static void due(String call, long got, long due) {
        Checks.due(call, got, due);
    }

    private static void newObject() {
        Checks.promise(1);
        CoinSampler x = new CoinSampler();
        for (int what = 0; what <= 8; what++) {
            due("count(" + what + ")", x.count(what), 0);
        }
        due("count(9)", x.count(9), 7);
        due("count(10)", x.count(10), 50_000);
        due("count(11)", x.count(11), 50);
        due("count(12)", x.count(12), 0);
        due("count(13)", x.count(13), 0);
        due("count(14)", x.count(14), 7);
        due("fault(0)", x.fault(0), 0);
        due("fault(1)", x.fault(1), NONE);
        due("find", x.find(0, 0), NONE);
        due("NONE", CoinSampler.NONE, -1);
        CoinSampler other = Checks.audited(2);
        due("an object of its own", x.count(0), 0);
        due("the other", other.count(0), 7);
    }

    private static void feed() {
        Checks.promise(2);
        CoinSampler x = new CoinSampler();
        // "item 12 345 -678;" byte by byte, the highest of each int first.
        due("feed", x.feed(0x6974656d, 0x20313220, 0x33343520, 0x2d363738, 0x3b202020), 20);
        due("text", x.text(17), 1);
        due("account", x.item(0, 0), 12);
        due("voucher", x.item(0, 1), 345);
        due("book", x.item(0, 2), -678);
        for (int i = 1; i <= 45; i++) {
            due("feed " + i, x.feed(0, -1, 0, 0, 0), 20 * i);
        }
        due("a 46th feed", x.feed(0, 0, 0, 0, 0), -4);
        due("nothing came", x.count(7), 900);
        due("text of no byte", x.text(0), 0);
        due("feed again", x.feed(0, 0, 0, 0, 0), 20);
    }

    private static void text() {
        Checks.promise(3);
        CoinSampler x = new CoinSampler();
        due("lines", Checks.tell(x, "item 1 10 500;item1 11-30 ; audit 1 10 400;audit 1 10 450;item 0 0 0;"), 3);
        due("empty tape", x.count(7), 0);
        due("the later audit", x.item(0, 3), 450);
        due("minus", x.item(1, 2), -30);
        due("not audited", x.item(1, 3), NONE);
        due("bounds", Checks.tell(x, "item 99 9999 99999;item 0 0 - 99999;audit 99 9999 99999;item 00000 00001 00002;"), 3);
        due("book", x.item(0, 2), 99_999);
        due("book", x.item(1, 2), -99_999);
        due("audited", x.item(0, 3), 99_999);
        due("leading noughts", x.find(0, 1), 2);
        due("blanks alone", Checks.tell(x, "     "), 0);
        due("of no byte", x.text(0), 0);
        Checks.feed(x, "item 1 2 3;item 4 5 6;");
        due("below 0", x.text(-1), -3);
        due("above what there is", x.text(41), -3);
        due("the tape stays", x.count(7), 40);
        due("the first bytes alone", x.text(11), 1);
        due("the tape is empty", x.count(7), 0);
        due("worth twice its book", Checks.tell(x, "item 1 1 7;audit 1 1 14;"), 1);
        due("48 items", Checks.tell(x, items(48)), 48);
    }

    private static String items(int howMany) {
        StringBuilder text = new StringBuilder();
        for (int i = 0; i < howMany; i++) {
            text.append("item ").append(i % 2).append(' ').append(i).append(" 9;");
        }
        return text.toString();
    }

    private static void textWhatStays() {
        Checks.promise(3);
        CoinSampler x = Checks.audited(2);
        x.terms(3, 1);
        x.terms(4, 99);
        x.draw();
        due("a fault", Checks.tell(x, "item 1 1 1;itm"), -31);
        due("the tape is empty", x.count(7), 0);
        due("items stay", x.count(0), 7);
        due("runs stay", x.count(4), 3);
        due("interval stays", x.count(3), 600);
        due("s stays", x.count(9), (99 * 1_103 + 12_345) % 1_000_003);
        due("audited stays", x.count(8), 4);
        due("a ledger", Checks.tell(x, "item 8 8 8;"), 1);
        due("no interval", x.count(3), 0);
        due("no runs", x.count(4), 0);
        due("no hits", x.count(5), 0);
        due("s is the seed", x.count(9), 99);
        due("terms stay", x.count(13), 1);
        due("nothing audited", x.count(8), 0);
        due("M", x.count(2), 8);
    }

    private static void fault() {
        Checks.promise(4);
        CoinSampler x = new CoinSampler();
        Checks.tell(x, "item 1 1 1; nothing");
        due("fault(0)", x.fault(0), 1);
        due("fault(1)", x.fault(1), 12);
        due("fault(2)", x.fault(2), NONE);
        due("fault(-1)", x.fault(-1), NONE);
        due("refused", x.text(1), -3);
        due("the latest that emptied the tape", x.fault(0), 1);
        due("its place", x.fault(1), 12);
        due("of no byte", x.text(0), 0);
        due("no fault", x.fault(0), 0);
        due("no place", x.fault(1), NONE);
        Checks.feed(x, "item 1 1 1;");
        due("what is behind the first bytes doesn't count", x.text(10), -31);
        due("the end is behind the first bytes", x.fault(1), 10);
        Checks.tell(x, "audit 1 1 1;");
        due("fault(0)", x.fault(0), 3);
        Checks.tell(x, "item 1 1 1;");
        due("fault(0)", x.fault(0), 0);
        due("fault(1)", x.fault(1), NONE);
    }

    private static void faulty(String text, int fault, int place) {
        CoinSampler x = new CoinSampler();
        due("text(" + text + ")", Checks.tell(x, text), -30 - fault);
        due("fault(0) of " + text, x.fault(0), fault);
        due("fault(1) of " + text, x.fault(1), place);
        due("items of " + text, x.count(0), 0);
    }

    private static void faultsOfForm() {
        Checks.promise(4);
        faulty(";", 1, 0);
        faulty("item", 1, 4);
        faulty("item ", 1, 5);
        faulty("items 1 1 1;", 1, 0);
        faulty("ite m 1 1 1;", 1, 0);
        faulty("itemz 1 1 1;", 1, 0);
        faulty("aitem 1 1 1;", 1, 0);
        faulty("xtem 1 1 1;", 1, 0);
        faulty("Item 1 1 1;", 1, 0);
        faulty("7;", 1, 0);
        faulty("item 1 1 1", 1, 10);
        faulty("item 1 1 1  ", 1, 12);
        faulty("item 1 1 1 1;", 1, 11);
        faulty("item 1 1 ;", 1, 9);
        faulty("item 1 1 --1;", 1, 10);
        faulty("item 1 1 -", 1, 10);
        faulty("item 1 -1 1;", 1, 7);
        faulty("item -1 1 1;", 1, 5);
        faulty("item 1 1 +1;", 1, 9);
        faulty("item\t1 1 1;", 1, 4);
        faulty("item 1 1 1;\n", 1, 11);
        faulty("item 1 1 1;;", 1, 11);
        faulty("item 1 1 1;audit 1 1 -1;", 1, 21);
        faulty("item 1 1 1;audits 1 1 1;", 1, 11);
        faulty("item 1 1 1,", 1, 10);
        faulty("item 1 1 1\u00bb", 1, 10);
        faulty("\u00e9", 1, 0);
    }

    private static void faultsOfNumbers() {
        Checks.promise(4);
        faulty("item 100 1 1;", 2, 5);
        faulty("item 1 10000 1;", 2, 7);
        faulty("item 1 1 100000;", 2, 9);
        faulty("item 1 1 -  100000;", 2, 12);
        faulty("item 000001 1 1;", 2, 5);
        faulty("item 1 1 99999999999999999999;", 2, 9);
        faulty("item 1 1 4294967297;", 2, 9);
        faulty("item 1 1 1;audit 100 1 1;", 2, 17);
        faulty("item 1 1 99999;audit 1 1 100000;", 2, 25);
        faulty("item 100 10000 x", 2, 5);
        faulty("item 1 1 1 2;item 100 1 1;", 1, 11);
    }

    private static void faultsOfMeaning() {
        Checks.promise(4);
        faulty("item 1 1 1; item 1 1 2;", 3, 12);
        faulty("item 1 1 1;item 1 1 2 what follows", 3, 11);
        faulty("audit 1 1 1;item 1 1 1;", 3, 0);
        faulty("item 1 1 5;audit 1 1 11;", 3, 11);
        faulty("item 1 1 0;audit 1 1 0;", 3, 11);
        faulty("item 1 1 -5;audit 1 1 0;", 3, 12);
        faulty("item 1 2 5;audit 2 1 1", 3, 11);
        faulty(items(48) + "item 9 9 9;", 3, items(48).length());
        faulty(items(48) + "item 100 9 9;", 2, items(48).length() + 5);
    }

    private static void terms() {
        Checks.promise(5);
        CoinSampler x = new CoinSampler();
        int[] first = {50_000, 50, 0, 0, 7};
        int[] least = {1, 1, 0, 0, 0};
        int[] greatest = {9_999_999, 500, 9, 1, 1_000_003};
        for (int what = 0; what < 5; what++) {
            due("below the least " + what, x.terms(what, least[what] - 1), -3);
            due("above the greatest " + what, x.terms(what, greatest[what] + 1), -3);
            due("the least " + what, x.terms(what, least[what]), first[what]);
            due("the greatest " + what, x.terms(what, greatest[what]), least[what]);
            due("count of " + what, x.count(10 + what), greatest[what]);
        }
        due("none such", x.terms(5, 0), -2);
        due("none such", x.terms(-1, 0), -2);
        due("none such, ahead of the number", x.terms(5, -1), -2);
        due("s", x.count(9), 1_000_003);
        CoinSampler y = Checks.sampled(1);
        due("s has gone on", y.count(9), 20_066);
        due("a seed told anew", y.terms(4, 7), 7);
        due("s is so anew", y.count(9), 7);
        due("another term", y.terms(0, 9), 50_000);
        due("a refused seed", y.terms(4, -1), -3);
        due("the run stays", y.start(0), 267);
        due("the same start again, so the one behind it", y.draw(), 478);
    }

    private static void add() {
        Checks.promise(6);
        CoinSampler x = new CoinSampler();
        due("add", x.add(0, 0, -99_999), 0);
        due("add", x.add(99, 9_999, 99_999), 1);
        due("account", x.item(1, 0), 99);
        due("voucher", x.item(1, 1), 9_999);
        due("book", x.item(1, 2), 99_999);
        due("not audited", x.item(1, 3), NONE);
        due("account below", x.add(-1, 0, 0), -3);
        due("account above", x.add(100, 0, 0), -3);
        due("voucher below", x.add(0, -1, 0), -3);
        due("voucher above", x.add(0, 10_000, 0), -3);
        due("book below", x.add(0, 1, -100_000), -3);
        due("book above", x.add(0, 1, 100_000), -3);
        due("it is there", x.add(0, 0, 5), -5);
        due("its account alone", x.add(0, 9_999, 5), 2);
        for (int i = 3; i < 48; i++) {
            due("add", x.add(1, i, i), i);
        }
        due("a 49th", x.add(2, 0, 0), -4);
        due("a 49th that is there", x.add(0, 0, 5), -4);
        due("a 49th of wrong numbers", x.add(0, 0, 100_000), -3);
        CoinSampler y = Checks.sampled(1);
        due("a run was drawn", y.add(9, 9, 9), -5);
        y.clear();
        due("add", y.add(9, 9, 9), 7);
        due("M", y.count(2), 899);
        due("the first coin", y.item(7, 8), 891);
    }

    private static void post() {
        Checks.promise(7);
        CoinSampler x = Checks.ledger();
        x.interval(600);
        x.audit(1, 100);
        due("post", x.post(1, 600), 300);
        due("audited no more", x.item(1, 3), NONE);
        due("book", x.item(1, 2), 600);
        due("certain now", x.item(1, 6), 1);
        due("M", x.count(2), 590);
        due("post", x.post(1, -99_999), 600);
        due("post", x.post(1, 99_999), -99_999);
        due("post what it is", x.post(2, 500), 500);
        due("below", x.post(1, -100_000), REFUSED);
        due("above", x.post(1, 100_000), REFUSED);
        due("no item", x.post(7, 1), REFUSED);
        due("no item", x.post(-1, 1), REFUSED);
        x.draw();
        due("a run was drawn", x.post(1, 5), REFUSED);
        due("book stays", x.item(1, 2), 99_999);
    }

    private static void audit() {
        Checks.promise(8);
        CoinSampler x = Checks.sampled(1);
        due("audit", x.audit(1, 0), NONE);
        due("again", x.audit(1, 600), 0);
        due("again", x.audit(1, 300), 600);
        due("audited", x.item(1, 3), 300);
        due("above twice its book", x.audit(1, 601), -3);
        due("below 0", x.audit(1, -1), -3);
        due("stays", x.item(1, 3), 300);
        due("no item", x.audit(7, 1), -2);
        due("no item", x.audit(-1, -1), -2);
        due("no coins", x.audit(4, 0), -5);
        due("no coins, a number that can't be", x.audit(4, 1), -3);
        due("book below 0", x.audit(3, 0), -3);
        due("one that isn't hit", x.audit(2, 1), NONE);
    }

    private static void forget() {
        Checks.promise(9);
        CoinSampler x = Checks.audited(1);
        due("forget", x.forget(1), 240);
        due("forgotten", x.forget(1), NONE);
        due("audited", x.item(1, 3), NONE);
        due("error", x.item(1, 4), 0);
        due("how many", x.count(8), 3);
        due("no coins", x.forget(4), NONE);
        due("no item", x.forget(7), -2);
        due("no item", x.forget(-1), -2);
    }

    private static void interval() {
        Checks.promise(10);
        CoinSampler x = Checks.ledger();
        due("interval", x.interval(600), 2);
        due("told", x.count(3), 600);
        due("as large as it", x.interval(500), 3);
        due("a little more", x.interval(501), 2);
        due("the least", x.interval(1), 5);
        due("the greatest", x.interval(99_999), 0);
        due("0", x.interval(0), -3);
        due("below 0", x.interval(-600), -3);
        due("above", x.interval(100_000), -3);
        due("stays", x.count(3), 99_999);
        x.draw();
        due("a run was drawn", x.interval(600), -5);
        due("a run was drawn, a number that can't be", x.interval(0), -3);
        x.clear();
        due("no run any more", x.interval(600), 2);
    }

    private static void plan() {
        Checks.promise(11);
        CoinSampler x = Checks.ledger();
        // 2,590 coins by 0.776394 are 2,010, by 0.631597 1,635, by 0.950001 2,460.
        x.terms(0, 2_010);
        due("size", x.plan(), 2);
        due("interval", x.count(3), 1_295);
        x.terms(0, 2_009);
        due("size", x.plan(), 3);
        due("interval, cut", x.count(3), 863);
        x.terms(0, 2_460);
        due("size", x.plan(), 1);
        due("interval", x.count(3), 2_590);
        due("M", x.count(2), 2_590);
        x.terms(0, 50_000);
        x.terms(2, 3);
        due("enough by one coin", x.plan(), 1);
        CoinSampler few = new CoinSampler();
        few.add(1, 1, 3);
        few.terms(0, 1);
        due("3 coins by 0.631597 are 1", few.plan(), 3);
        due("interval", few.count(3), 1);
        few.add(1, 2, 1);
        due("4 coins by 0.45072 are 1", few.plan(), 5);
        due("1 at least", few.count(3), 1);
        CoinSampler many = new CoinSampler();
        for (int i = 0; i < 48; i++) {
            many.add(1, i, 99_999);
        }
        many.terms(0, 9_999_999);
        due("size", many.plan(), 1);
        due("it may be above 99,999", many.count(3), 4_799_952);
        due("none is certain", many.certain(NONE), 0);
    }

    private static void planRefused() {
        Checks.promise(11);
        CoinSampler x = new CoinSampler();
        due("no coins", x.plan(), -5);
        x.add(1, 1, -5);
        due("no coins", x.plan(), -5);
        CoinSampler y = Checks.ledger();
        y.terms(0, 1);
        due("none up to 400", y.plan(), -4);
        due("no interval", y.count(3), 0);
        y.interval(600);
        y.draw();
        due("none up to 400, a run was drawn", y.plan(), -4);
        y.terms(0, 50_000);
        due("a run was drawn", y.plan(), -5);
        due("interval stays", y.count(3), 600);
    }

    private static void draw() {
        Checks.promise(12);
        CoinSampler x = Checks.ledger();
        due("no interval", x.draw(), -5);
        x.interval(600);
        due("s 20,066", x.draw(), 267);
        due("s 145,077", x.draw(), 478);
        due("s 31,796", x.draw(), 597);
        due("s", x.count(9), 31_796);
        due("hits", x.count(5), 4);
        x.draw();
        due("a fifth", x.draw() > 0 ? 1 : 0, 1);
        due("a sixth", x.draw(), -4);
        due("runs", x.count(4), 5);
        CoinSampler y = new CoinSampler();
        y.interval(1);
        due("no coins, but an interval", y.draw(), 1);
        due("as many as the interval", y.draw(), -4);
        y.clear();
        y.interval(2);
        y.draw();
        y.draw();
        due("as many as the interval", y.draw(), -4);
    }

    private static void drawnAgain() {
        Checks.promise(12);
        CoinSampler x = new CoinSampler();
        // 311,242 times 1,103 and 12,345 is 311,242 again.
        x.terms(4, 311_242);
        x.interval(600);
        int[] lowest = {443, 1, 2, 3, 4};
        for (int start : lowest) {
            due("draw", x.draw(), start);
        }
        due("s", x.count(9), 311_242);
        x.clear();
        x.interval(5);
        int[] lowestOfFive = {3, 1, 2, 4, 5};
        for (int start : lowestOfFive) {
            due("draw", x.draw(), start);
        }
        drawFive(88_971, new int[] {5, 2, 1, 4, 3}, 726_807);
        drawFive(8_777, new int[] {5, 1, 2, 3, 4}, 969_955);
    }

    // With either seed the fifth is drawn 50 times: at last it is a new one, or it still isn't.
    private static void drawFive(int seed, int[] starts, int s) {
        CoinSampler x = new CoinSampler();
        x.terms(4, seed);
        x.interval(5);
        for (int start : starts) {
            due("draw", x.draw(), start);
        }
        due("s", x.count(9), s);
    }

    private static void clear() {
        Checks.promise(13);
        CoinSampler x = Checks.audited(3);
        due("clear", x.clear(), 3);
        due("again", x.clear(), 0);
        due("runs", x.count(4), 0);
        due("hits", x.count(5), 0);
        due("no start", x.start(0), -2);
        due("times hit", x.item(1, 7), 0);
        due("interval stays", x.count(3), 600);
        due("audited stays", x.count(8), 4);
        due("s stays", x.count(9), 31_796);
    }
}
