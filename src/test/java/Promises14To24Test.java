import java.util.function.Supplier;
import java.util.function.ToIntBiFunction;
import java.util.function.ToIntFunction;

/** Promises 14 to 24, sentence by sentence: items, coins, hits, the lists, accounts, lines. */
public final class Promises14To24Test {
    private static final int NONE = Sentences.NONE;
    private static final int REFUSED = Sentences.REFUSED;
    private static final int[] NO_ITEMS = {-1, 7, 48, Integer.MIN_VALUE, Integer.MAX_VALUE};

    public static void main(String[] args) {
        Sentences.run(Promises14To24Test.class);
    }

    private static void due(String call, long got, long due) {
        Sentences.due(call, got, due);
    }

    private static void keeps(Supplier<CoinSampler> made, String call, ToIntFunction<CoinSampler> ask, int due) {
        Sentences.keeps(made, call, ask, due);
    }

    private static CoinSampler audited1() {
        return Checks.audited(1);
    }

    private static void list(String name, ToIntFunction<Integer> ask, int... due) {
        due(name + "(NONE)", ask.applyAsInt(NONE), due.length);
        for (int k = 0; k < due.length; k++) {
            due(name + "(" + k + ")", ask.applyAsInt(k), due[k]);
        }
        due(name + " behind the last", ask.applyAsInt(due.length), NONE);
        due(name + " far behind the last", ask.applyAsInt(Integer.MAX_VALUE), NONE);
    }

    private static void belowNone(String name, Supplier<CoinSampler> made,
        ToIntBiFunction<CoinSampler, Integer> ask) {
        for (int k : new int[] {-2, -3, Integer.MIN_VALUE}) {
            keeps(made, name + "(" + k + ")", x -> ask.applyAsInt(x, k), -3);
        }
    }

    // ---- promise 14

    @Says("The number of an ITEM.")
    static void promise14_theNumberOfAnItem() {
        CoinSampler x = Sentences.full();
        due("the first", x.find(1, 0), 0);
        due("the last of a full ledger", x.find(1, 47), 47);
        CoinSampler y = Checks.ledger();
        due("without coins", y.find(3, 14), 4);
        due("a book below 0", y.find(2, 13), 3);
        due("the last", y.find(2, 16), 6);
    }

    @Says("NONE.")
    static void promise14_none() {
        CoinSampler x = Checks.ledger();
        due("the account alone", x.find(1, 12), NONE);
        due("the voucher alone", x.find(2, 10), NONE);
        due("what can't be", x.find(-1, -1), NONE);
        due("what can't be", x.find(100, 10_000), NONE);
        due("what can't be", x.find(Integer.MAX_VALUE, Integer.MIN_VALUE), NONE);
        due("an empty ledger", new CoinSampler().find(0, 0), NONE);
    }

    // ---- promise 15

    @Says("Of an ITEM, what 0 ACCOUNT, 1 VOUCHER, 2 BOOK,")
    static void promise15_accountVoucherBook() {
        CoinSampler x = Checks.ledger();
        int[][] due = {{1, 10, 1_000}, {1, 11, 300}, {2, 12, 500}, {2, 13, -200}, {3, 14, 0}, {4, 15, 700}, {2, 16, 90}};
        for (int i = 0; i < due.length; i++) {
            for (int what = 0; what < 3; what++) {
                due("item(" + i + ", " + what + ")", x.item(i, what), due[i][what]);
            }
        }
    }

    @Says("3 AUDITED (NONE),")
    static void promise15_audited_none() {
        CoinSampler x = audited1();
        int[] due = {900, 240, NONE, NONE, NONE, 750, 99};
        for (int i = 0; i < due.length; i++) {
            due("item(" + i + ", 3)", x.item(i, 3), due[i]);
        }
        x.audit(1, 0);
        due("as nothing", x.item(1, 3), 0);
        x.audit(1, 300);
        due("as its book", x.item(1, 3), 300);
    }

    @Says("4 ERROR (0 if it wasn't),")
    static void promise15_error_0IfItWasnt() {
        CoinSampler x = audited1();
        int[] due = {100, 60, 0, 0, 0, -50, -9};
        for (int i = 0; i < due.length; i++) {
            due("item(" + i + ", 4)", x.item(i, 4), due[i]);
        }
        x.forget(1);
        due("forgotten", x.item(1, 4), 0);
    }

    @Says("5 TAINT (likewise),")
    static void promise15_taint_0IfItWasnt() {
        CoinSampler x = audited1();
        int[] due = {1_000, 2_000, 0, 0, 0, -714, -1_000};
        for (int i = 0; i < due.length; i++) {
            due("item(" + i + ", 5)", x.item(i, 5), due[i]);
        }
        x.forget(1);
        due("forgotten", x.item(1, 5), 0);
    }

    @Says("6 1 if CERTAIN,")
    static void promise15_certain() {
        CoinSampler x = audited1();
        int[] due = {1, 0, 0, 0, 0, 1, 0};
        for (int i = 0; i < due.length; i++) {
            due("item(" + i + ", 6)", x.item(i, 6), due[i]);
            due("no interval", Checks.ledger().item(i, 6), 0);
        }
    }

    @Says("7 how often it was HIT,")
    static void promise15_howOftenItWasHit() {
        CoinSampler x = Checks.sampled(5);
        // 267, 867; 478; 597; 429; 157, 757.
        int[] due = {0, 2, 4, 0, 0, 0, 1};
        for (int i = 0; i < due.length; i++) {
            due("item(" + i + ", 7)", x.item(i, 7), due[i]);
            due("no run", Checks.sampled(0).item(i, 7), 0);
        }
    }

    @Says("8 its first COIN of THE REST (0: none).")
    static void promise15_firstCoin_0None() {
        CoinSampler x = audited1();
        int[] due = {0, 1, 301, 0, 0, 0, 801};
        for (int i = 0; i < due.length; i++) {
            due("item(" + i + ", 8)", x.item(i, 8), due[i]);
        }
        due("no interval", Checks.ledger().item(6, 8), 2_501);
    }

    @Says("-10,000,000: the ITEM,")
    static void promise15_refused_theItem() {
        for (int item : NO_ITEMS) {
            keeps(Checks::ledger, "item(" + item + ", 0)", x -> x.item(item, 0), REFUSED);
        }
        due("the last of a full ledger", Sentences.full().item(47, 1), 47);
        due("an empty ledger", new CoinSampler().item(0, 0), REFUSED);
    }

    @Says("what.")
    static void promise15_refused_what() {
        for (int what : new int[] {-1, 9, Integer.MIN_VALUE, Integer.MAX_VALUE}) {
            keeps(Checks::ledger, "item(0, " + what + ")", x -> x.item(0, what), REFUSED);
        }
    }

    // ---- promise 16

    @Says("Of COIN c of THE REST, what 0 the ITEM that has it,")
    static void promise16_theItemThatHasIt() {
        CoinSampler x = Checks.sampled(0);
        int[] coins = {1, 300, 301, 800, 801, 890};
        int[] owners = {1, 1, 2, 2, 6, 6};
        for (int i = 0; i < coins.length; i++) {
            due("coin(" + coins[i] + ", 0)", x.coin(coins[i], 0), owners[i]);
        }
        CoinSampler one = Sentences.single(1, 2, 7);
        one.add(1, 2, 1);
        due("of one coin", one.coin(1, 0), 0);
        due("of one coin", one.coin(2, 0), 1);
    }

    @Says("1 its STRETCH,")
    static void promise16_itsStretch() {
        CoinSampler x = Checks.sampled(0);
        due("the first coin", x.coin(1, 1), 0);
        due("the last of its stretch", x.coin(600, 1), 0);
        due("the first of the next", x.coin(601, 1), 1);
        due("the last coin", x.coin(890, 1), 1);
    }

    @Says("2 how many RUNS HIT it.")
    static void promise16_howManyRunsHitIt() {
        CoinSampler x = Checks.sampled(2);
        due("START", x.coin(267, 2), 1);
        due("one ahead", x.coin(266, 2), 0);
        due("one behind", x.coin(268, 2), 0);
        due("START and INTERVAL", x.coin(867, 2), 1);
        due("of the other run", x.coin(478, 2), 1);
        due("of a run that isn't drawn yet", x.coin(597, 2), 0);
        x.clear();
        due("of a run that is no more", x.coin(267, 2), 0);
        due("without a run", Checks.sampled(0).coin(267, 2), 0);
    }

    @Says("-2: the COIN,")
    static void promise16_minus2_theCoin() {
        for (int c : new int[] {0, -1, 891, Integer.MIN_VALUE, Integer.MAX_VALUE}) {
            keeps(() -> Checks.sampled(1), "coin(" + c + ", 0)", x -> x.coin(c, 0), -2);
        }
        due("the last there is", Checks.sampled(1).coin(890, 0), 6);
        CoinSampler none = new CoinSampler();
        none.interval(5);
        due("no coins", none.coin(1, 0), -2);
    }

    @Says("what;")
    static void promise16_minus2_what() {
        for (int what : new int[] {-1, 3, Integer.MIN_VALUE, Integer.MAX_VALUE}) {
            keeps(() -> Checks.sampled(1), "coin(1, " + what + ")", x -> x.coin(1, what), -2);
        }
    }

    @Says("-5: there is no INTERVAL.")
    static void promise16_minus5_noInterval() {
        for (int what = 0; what < 3; what++) {
            int told = what;
            keeps(Checks::ledger, "coin(1, " + what + ")", x -> x.coin(1, told), -5);
        }
        due("the last coin there is", Checks.ledger().coin(2_590, 0), -5);
        due("behind it", Checks.ledger().coin(2_591, 0), -2);
    }

    // ---- promise 17

    private static void hits(int what, int... due) {
        CoinSampler x = Checks.audited(3);
        for (int k = 0; k < due.length; k++) {
            due("hit(" + k + ", " + what + ")", x.hit(k, what), due[k]);
        }
    }

    @Says("Of HIT k, what 0 the ITEM,")
    static void promise17_theItem() {
        hits(0, 1, 6, 2, 2);
    }

    @Says("1 the COIN,")
    static void promise17_theCoin() {
        hits(1, 267, 867, 478, 597);
    }

    @Says("2 its RUN (from 0),")
    static void promise17_itsRun_from0() {
        hits(2, 0, 0, 1, 2);
    }

    @Says("3 TAINT (0 if it wasn't AUDITED) and 10,000.")
    static void promise17_taintAnd10000() {
        hits(3, 12_000, 9_000, 10_000, 10_000);
        CoinSampler x = Checks.sampled(1);
        due("not audited", x.hit(0, 3), 10_000);
        x.audit(1, 0);
        due("the greatest", x.hit(0, 3), 20_000);
        x.audit(1, 600);
        due("the least", x.hit(0, 3), 0);
    }

    @Says("-2.")
    static void promise17_minus2_noSuchHit_noSuchWhat() {
        for (int k : new int[] {-1, 4, Integer.MIN_VALUE, Integer.MAX_VALUE}) {
            keeps(() -> Checks.audited(3), "hit(" + k + ", 0)", x -> x.hit(k, 0), -2);
        }
        for (int what : new int[] {-1, 4, Integer.MIN_VALUE, Integer.MAX_VALUE}) {
            keeps(() -> Checks.audited(3), "hit(0, " + what + ")", x -> x.hit(0, what), -2);
        }
        keeps(() -> Checks.sampled(0), "no run", x -> x.hit(0, 0), -2);
        keeps(CoinSampler::new, "an empty ledger", x -> x.hit(0, 0), -2);
        CoinSampler x = Checks.sampled(2);
        x.clear();
        due("runs that are no more", x.hit(0, 0), -2);
    }

    // ---- promise 18

    @Says("START of RUN k.")
    static void promise18_startOfRunK() {
        CoinSampler x = Checks.sampled(5);
        int[] starts = {267, 478, 597, 429, 157};
        for (int k = 0; k < starts.length; k++) {
            due("start(" + k + ")", x.start(k), starts[k]);
        }
    }

    @Says("-2.")
    static void promise18_minus2_noSuchRun() {
        for (int k : new int[] {-1, 2, 5, Integer.MIN_VALUE, Integer.MAX_VALUE}) {
            keeps(() -> Checks.sampled(2), "start(" + k + ")", x -> x.start(k), -2);
        }
        keeps(() -> Checks.sampled(5), "start(5) of 5", x -> x.start(5), -2);
        keeps(() -> Checks.sampled(0), "start(0) of none", x -> x.start(0), -2);
    }

    // ---- promise 19

    @Says({"The k-th ITEM that is CERTAIN, rising (k NONE: how many).", "NONE;"})
    static void promise19_rising_howMany_none() {
        list("certain", Checks.sampled(1)::certain, 0, 5);
        list("certain, no interval", Checks.ledger()::certain);
        list("certain, an empty ledger", new CoinSampler()::certain);
        CoinSampler all = Sentences.full();
        all.interval(1);
        due("all of a full ledger", all.certain(NONE), 48);
        due("the last of them", all.certain(47), 47);
        due("behind it", all.certain(48), NONE);
    }

    @Says("-3: k is below NONE.")
    static void promise19_minus3_kIsBelowNone() {
        belowNone("certain", Promises14To24Test::audited1, CoinSampler::certain);
    }

    // ---- promise 20

    @Says({"The k-th ITEM that is LACKING, rising (k NONE: how many).", "NONE;"})
    static void promise20_rising_howMany_none() {
        CoinSampler x = Checks.sampled(1);
        list("lacking", x::lacking, 0, 1, 5, 6);
        x.audit(1, 300);
        list("lacking", x::lacking, 0, 5, 6);
        list("lacking, no run: the certain ones", Checks.sampled(0)::lacking, 0, 5);
        list("lacking, no interval", Checks.ledger()::lacking);
        list("lacking, all audited", audited1()::lacking);
        list("lacking, an empty ledger", new CoinSampler()::lacking);
    }

    @Says("-3 likewise.")
    static void promise20_minus3_kIsBelowNone() {
        belowNone("lacking", Promises14To24Test::audited1, CoinSampler::lacking);
    }

    // ---- promise 21

    private static void accounts(CoinSampler x, int what, int... due) {
        for (int account = 0; account < due.length; account++) {
            due("account(" + account + ", " + what + ")", x.account(account, what), due[account]);
        }
        due("account(99, " + what + ")", x.account(99, what), 0);
    }

    @Says("Of an ACCOUNT (0 to 99),")
    static void promise21_account_0To99() {
        CoinSampler x = new CoinSampler();
        x.add(0, 1, 5);
        x.add(99, 1, 6);
        due("the least", x.account(0, 1), 5);
        due("the greatest", x.account(99, 1), 6);
        due("one without items", x.account(50, 0), 0);
        due("below", x.account(-1, 1), REFUSED);
        due("above", x.account(100, 1), REFUSED);
    }

    @Says("what 0 ITEMS,")
    static void promise21_items() {
        accounts(Checks.audited(3), 0, 0, 2, 3, 1, 1);
        due("a full one", Sentences.full().account(1, 0), 48);
    }

    @Says("1 BOOK together,")
    static void promise21_bookTogether() {
        accounts(Checks.audited(3), 1, 0, 1_300, 390, 0, 700);
        CoinSampler x = Checks.ledger();
        x.post(2, -400);
        due("below 0", x.account(2, 1), -510);
        CoinSampler full = new CoinSampler();
        for (int i = 0; i < 48; i++) {
            full.add(1, i, -99_999);
        }
        due("the least", full.account(1, 1), -4_799_952);
    }

    @Says("2 HITS,")
    static void promise21_hits() {
        accounts(Checks.audited(3), 2, 0, 1, 3, 0, 0);
        accounts(Checks.audited(0), 2, 0, 0, 0, 0, 0);
    }

    @Says("3 ERRORS of those AUDITED together,")
    static void promise21_errorsOfThoseAudited() {
        CoinSampler x = Checks.audited(3);
        accounts(x, 3, 0, 160, -9, 0, -50);
        x.forget(0);
        due("those audited alone", x.account(1, 3), 60);
        x.audit(2, 480);
        due("with sign", x.account(2, 3), 11);
        CoinSampler y = Checks.sampled(1);
        y.audit(2, 450);
        due("one that is neither hit nor certain", y.account(2, 3), 50);
        CoinSampler z = Checks.ledger();
        z.audit(1, 0);
        due("no interval", z.account(1, 3), 300);
        accounts(Checks.ledger(), 3, 0, 0, 0, 0, 0);
    }

    @Says("4 how many are CERTAIN,")
    static void promise21_howManyAreCertain() {
        accounts(Checks.audited(3), 4, 0, 1, 0, 0, 1);
        accounts(Checks.ledger(), 4, 0, 0, 0, 0, 0);
        accounts(Checks.audited(0), 4, 0, 1, 0, 0, 1);
    }

    @Says("5 PROJECTED of their HITS, those below 0 with sign")
    static void promise21_projectedOfTheirHits_withSign() {
        CoinSampler x = Checks.audited(3);
        // Taint 2,000 times 600 by 30,000 is 40, -1,000 likewise -20.
        accounts(x, 5, 0, 40, -20, 0, 0);
        x.audit(2, 250);
        due("two hits of 100, less 20", x.account(2, 5), 180);
        x.audit(2, 496);
        due("two hits of 1.6, each cut, less 20", x.account(2, 5), -18);
        x.audit(2, 504);
        due("two hits of -1.6, each cut, less 20", x.account(2, 5), -22);
    }

    @Says("(0 without a RUN).")
    static void promise21_projected_0WithoutARun() {
        accounts(Checks.audited(0), 5, 0, 0, 0, 0, 0);
        CoinSampler x = Checks.audited(3);
        x.clear();
        accounts(x, 5, 0, 0, 0, 0, 0);
        accounts(Checks.ledger(), 5, 0, 0, 0, 0, 0);
    }

    @Says("-10,000,000: others.")
    static void promise21_refused_others() {
        for (int account : new int[] {-1, 100, Integer.MIN_VALUE, Integer.MAX_VALUE}) {
            keeps(Promises14To24Test::audited1, "account(" + account + ", 0)", x -> x.account(account, 0), REFUSED);
        }
        for (int what : new int[] {-1, 6, Integer.MIN_VALUE, Integer.MAX_VALUE}) {
            keeps(Promises14To24Test::audited1, "account(1, " + what + ")", x -> x.account(1, what), REFUSED);
            due("one without items", new CoinSampler().account(1, what), REFUSED);
        }
    }

    // ---- promise 22

    @Says({"The k-th ACCOUNT that has ITEMS, as they are first told (k NONE: how many).", "NONE;"})
    static void promise22_asTheyAreFirstTold_howMany_none() {
        CoinSampler x = new CoinSampler();
        list("accounts, an empty ledger", x::accounts);
        x.add(50, 1, 1);
        x.add(7, 1, 1);
        x.add(50, 2, 1);
        x.add(0, 1, -1);
        x.add(7, 2, 0);
        x.add(99, 1, 1);
        list("accounts", x::accounts, 50, 7, 0, 99);
        CoinSampler full = new CoinSampler();
        for (int i = 0; i < 48; i++) {
            full.add(99 - i, 1, 1);
        }
        due("48 of them", full.accounts(NONE), 48);
        due("the last of them", full.accounts(47), 52);
        due("behind it", full.accounts(48), NONE);
    }

    @Says("-3: k is below NONE.")
    static void promise22_minus3_kIsBelowNone() {
        belowNone("accounts", Promises14To24Test::audited1, CoinSampler::accounts);
    }

    // ---- promise 23

    @Says({"The k-th ITEM that is to be looked at (HIT or CERTAIN), rising (k NONE: how many).", "NONE;"})
    static void promise23_rising_howMany_none() {
        list("drawn", audited1()::drawn, 0, 1, 5, 6);
        list("drawn, another run", Checks.audited(2)::drawn, 0, 1, 2, 5, 6);
        list("drawn, no run: the certain ones", Checks.audited(0)::drawn, 0, 5);
        list("drawn, no interval", Checks.ledger()::drawn);
        list("drawn, an empty ledger", new CoinSampler()::drawn);
    }

    @Says("-3: k is below NONE.")
    static void promise23_minus3_kIsBelowNone() {
        belowNone("drawn", Promises14To24Test::audited1, CoinSampler::drawn);
    }

    // ---- promise 24

    private static void lineOf(CoinSampler x, int k, String line) {
        for (int i = 0; i < line.length(); i++) {
            due("byte " + i + " of " + line, x.line(k, i), line.charAt(i));
        }
        due("behind " + line, x.line(k, line.length()), NONE);
    }

    @Says("Byte i of the line of the k-th of these: ACCOUNT, /, VOUCHER, a blank, BOOK,")
    static void promise24_accountVoucherBook() {
        CoinSampler x = new CoinSampler();
        x.add(0, 0, 1);
        x.add(99, 9_999, 99_999);
        x.add(10, 100, 1_000);
        x.interval(1);
        lineOf(x, 0, "0/0 1!");
        lineOf(x, 1, "99/9999 99999!");
        lineOf(x, 2, "10/100 1000!");
    }

    @Says("then !, if it is CERTAIN,")
    static void promise24_certain() {
        CoinSampler x = Checks.sampled(3);
        lineOf(x, 0, "1/10 1000!");
        lineOf(x, 3, "4/15 700!");
    }

    @Says("else x and how often it was HIT;")
    static void promise24_howOftenItWasHit() {
        CoinSampler x = Checks.sampled(5);
        lineOf(x, 1, "1/11 300x2");
        lineOf(x, 2, "2/12 500x4");
        lineOf(x, 4, "2/16 90x1");
    }

    @Says("then, if it was AUDITED, a blank, = and AUDITED")
    static void promise24_ifItWasAudited() {
        CoinSampler x = Checks.audited(1);
        lineOf(x, 0, "1/10 1000! =900");
        lineOf(x, 3, "2/16 90x1 =99");
        x.audit(0, 0);
        lineOf(x, 0, "1/10 1000! =0");
        x.audit(0, 1_000);
        lineOf(x, 0, "1/10 1000! =1000");
        x.forget(0);
        lineOf(x, 0, "1/10 1000!");
        CoinSampler y = new CoinSampler();
        y.add(99, 9_999, 99_999);
        y.interval(99_999);
        y.audit(0, 199_998);
        lineOf(y, 0, "99/9999 99999! =199998");
    }

    @Says("(as 7/120 950x1 =900).")
    static void promise24_asTheDocumentShows() {
        CoinSampler x = new CoinSampler();
        x.add(7, 120, 950);
        x.interval(951);
        x.draw();
        x.audit(0, 900);
        due("start", x.start(0), 20_066 % 951 + 1);
        lineOf(x, 0, "7/120 950x1 =900");
    }

    @Says("NONE: not so many;")
    static void promise24_none_notSoMany() {
        CoinSampler x = audited1();
        due("the last byte", x.line(0, 14), '0');
        due("behind it", x.line(0, 15), NONE);
        due("far behind it", x.line(0, 32), NONE);
        due("very far behind it", x.line(0, Integer.MAX_VALUE), NONE);
        due("a shorter line", x.line(3, 13), NONE);
    }

    @Says("-2: there is none such;")
    static void promise24_minus2_thereIsNoneSuch() {
        for (int k : new int[] {4, -1, -2, Integer.MIN_VALUE, Integer.MAX_VALUE}) {
            keeps(Promises14To24Test::audited1, "line(" + k + ", 0)", x -> x.line(k, 0), -2);
        }
        keeps(Checks::ledger, "nothing is to be looked at", x -> x.line(0, 0), -2);
        keeps(CoinSampler::new, "an empty ledger", x -> x.line(0, 0), -2);
    }

    @Says("-3: i is below 0.")
    static void promise24_minus3_iIsBelow0() {
        for (int i : new int[] {-1, -2, Integer.MIN_VALUE}) {
            keeps(Promises14To24Test::audited1, "line(0, " + i + ")", x -> x.line(0, i), -3);
        }
        due("none such, ahead of it", audited1().line(4, -1), -2);
    }
}
