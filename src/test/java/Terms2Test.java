/** Section 2 of the document's terms, sentence by sentence: UPPER, SIZE, the INTERVAL, the walk and its hits. */
public final class Terms2Test {
    private static final int NONE = Sentences.NONE;

    public static void main(String[] args) {
        Sentences.run(Terms2Test.class);
    }

    private static void due(String call, long got, long due) {
        Sentences.due(call, got, due);
    }

    private static CoinSampler byRisk(int risk) {
        CoinSampler x = new CoinSampler();
        x.terms(1, risk);
        return x;
    }

    // ---- UPPER

    @Says("1,000,000, if k is n or more.")
    static void terms2_upper_kIsNOrMore() {
        CoinSampler x = new CoinSampler();
        int[][] atLeast = {{0, 0}, {0, 1}, {0, 400}, {1, 1}, {2, 2}, {2, 3}, {399, 400}, {400, 400}};
        for (int[] nk : atLeast) {
            due("upper(" + nk[0] + ", " + nk[1] + ")", x.upper(nk[0], nk[1]), 1_000_000);
        }
        due("k is one less than n", x.upper(1, 0), 950_001);
        due("k is one less than n", x.upper(2, 1), 974_680);
        due("k is one less than n", x.upper(7, 6), 992_700);
    }

    @Says("UPPER of n, k (by RISK):")
    static void terms2_upper_byRisk() {
        due("the least risk", byRisk(1).upper(2, 1), 999_500);
        due("at first", byRisk(50).upper(2, 1), 974_680);
        due("the greatest risk, the root of a half", byRisk(500).upper(2, 1), 707_107);
        due("the least risk", byRisk(1).upper(400, 0), 17_122);
        due("the greatest risk", byRisk(500).upper(400, 0), 1_732);
    }

    @Says({"Else by doubles: of u (0 to 1,000,000): p is u by 1,000,000; q is 1 less p;",
        "t is 1, n times t becomes t times q; s is t;"})
    static void terms2_upper_byDoubles_ofKNought() {
        CoinSampler x = new CoinSampler();
        int[] uppers = {950_001, 776_394, 631_597, 527_130, 450_720, 393_038, 348_164};
        for (int n = 1; n <= uppers.length; n++) {
            due("upper(" + n + ", 0)", x.upper(n, 0), uppers[n - 1]);
        }
        due("upper(240, 0)", x.upper(240, 0), 12_405);
        due("upper(400, 0)", x.upper(400, 0), 7_462);
        // 1 less 0.999 is a little more than 0.001 by doubles.
        due("a double's rounding", byRisk(1).upper(1, 0), 999_001);
    }

    @Says("for j from 1 to k: t becomes t times (n less j and 1), that by j, that times p, that by q, s becomes s and t")
    static void terms2_upper_eachJFrom1ToK() {
        CoinSampler x = new CoinSampler();
        int[][] uppers = {{631_597, 864_650, 983_048}, {527_130, 751_396, 902_389, 987_259},
            {450_720, 657_409, 810_745, 923_560, 989_794}};
        for (int row = 0; row < uppers.length; row++) {
            for (int k = 0; k < uppers[row].length; k++) {
                due("upper(" + (row + 3) + ", " + k + ")", x.upper(row + 3, k), uppers[row][k]);
            }
        }
        // From a q of some 0.155 on its 400th power is 0 by doubles, and so is all that comes of it.
        for (int k : new int[] {330, 350, 398, 399}) {
            due("upper(400, " + k + ")", x.upper(400, k), 844_738);
        }
        // Where it is next to 0, few digits of it are left, and in which order it is reckoned counts.
        due("upper(400, 324)", x.upper(400, 324), 841_727);
        due("upper(335, 299)", byRisk(500).upper(335, 299), 891_865);
        due("upper(347, 304)", byRisk(500).upper(347, 304), 877_159);
        due("upper(390, 327)", byRisk(350).upper(390, 327), 846_523);
        due("upper(400, 300)", x.upper(400, 300), 785_399);
        due("upper(240, 239)", x.upper(240, 239), 955_158);
    }

    @Says("(if q is 0, s is 0 at once).")
    static void terms2_upper_qIs0_neverNeeded() {
        for (int n = 2; n <= 12; n++) {
            long upper = byRisk(1).upper(n, n - 1);
            due("1,000,000 alone would do for " + n, upper < 1_000_000 ? 1 : 0, 1);
            due("a number of that", upper > 999_000 ? 1 : 0, 1);
        }
        due("where no power of q is left", byRisk(1).upper(400, 399), 844_738);
    }

    @Says({"LOW is 0, HIGH 1,000,000; as long as HIGH is more than 1 above LOW: u is LOW and HIGH by 2, cut;",
        "UPPER is HIGH then."})
    static void terms2_upper_foundByHalving_highThen() {
        CoinSampler x = byRisk(500);
        due("the very half", x.upper(1, 0), 500_000);
        due("a little more than 1 less the root of a half", x.upper(2, 0), 292_894);
        due("a little more than the root of a half", x.upper(2, 1), 707_107);
        CoinSampler y = new CoinSampler();
        int[] uppers = {864_650, 751_396, 657_409, 581_804, 520_703};
        for (int n = 3; n <= 7; n++) {
            due("upper(" + n + ", 1)", y.upper(n, 1), uppers[n - 3]);
        }
    }

    @Says("if s of it is RISK by 1,000 (as doubles) or less, HIGH is u, else LOW is u.")
    static void terms2_upper_sIsRiskOrLess() {
        due("s is just the risk", byRisk(500).upper(1, 0), 500_000);
        due("s is just the risk", byRisk(250).upper(1, 0), 750_000);
        due("s is just the risk", byRisk(125).upper(1, 0), 875_000);
        due("s is just the risk", byRisk(250).upper(2, 0), 500_000);
        due("s would be just the risk by a lesser k", byRisk(250).upper(2, 1), 866_026);
        due("s would be just the risk by a lesser k", byRisk(125).upper(3, 1), 778_938);
        due("s is a little more than the risk", byRisk(50).upper(1, 0), 950_001);
        due("s is a little more than the risk", byRisk(20).upper(1, 0), 980_001);
        for (int risk = 1; risk <= 500; risk++) {
            due("by risk " + risk, byRisk(risk).upper(1, 0), 1_000_000 - 1_000 * risk + (isABitMore(risk) ? 1 : 0));
        }
    }

    /** Whether 1 less what is left of 1 by a risk is more than the risk, as doubles. */
    private static boolean isABitMore(int risk) {
        double left = Double.parseDouble(String.format(java.util.Locale.ROOT, "0.%03d", 1_000 - risk));
        return 1 - left > Double.parseDouble(String.format(java.util.Locale.ROOT, "0.%03d", risk));
    }

    // ---- SIZE

    @Says("SIZE by a TOLERABLE: the least n (1 to 400)")
    static void terms2_size_theLeastN_1To400() {
        CoinSampler x = Checks.ledger();
        due("1 at least", x.size(9_999_999), 1);
        due("1, just", x.size(2_460), 1);
        due("2", x.size(2_459), 2);
        due("2, just", x.size(2_010), 2);
        due("3", x.size(2_009), 3);
        CoinSampler y = Sentences.single(99_999, 1, 7);
        due("400", y.size(746), 400);
        due("none up to 400", y.size(745), NONE);
        due("399 wouldn't do", 99_999L * y.upper(399, 0) / 1_000_000 > 746 ? 1 : 0, 1);
    }

    @Says("by which all COINS times UPPER of n, EXPECT,")
    static void terms2_size_allCoins_ofExpect() {
        CoinSampler x = Checks.ledger();
        x.interval(600);
        due("of the certain ones too", x.size(2_460), 1);
        x.terms(2, 1);
        due("of EXPECT 1: 2,590 by 0.864650 are 2,239", x.size(2_239), 3);
        due("2,590 by 0.751396 are 1,946", x.size(2_238), 4);
        x.terms(2, 9);
        due("n up to EXPECT: all coins", x.size(2_590), 1);
        due("the first n above EXPECT", x.size(2_589), 10);
    }

    @Says("by 1,000,000, cut, is TOLERABLE or less.")
    static void terms2_size_cut_isTolerableOrLess() {
        CoinSampler x = Checks.ledger();
        // 2,460.50.., 2,010.86..
        due("cut", x.size(2_460), 1);
        due("cut", x.size(2_010), 2);
        CoinSampler y = Sentences.single(3, 1, 7);
        due("3 by 0.631597 is 1", y.size(1), 3);
        CoinSampler many = new CoinSampler();
        for (int i = 0; i < 48; i++) {
            many.add(1, i, 99_999);
        }
        due("very many coins: 4,799,952 by 0.950001", many.size(4_559_959), 1);
        due("one less", many.size(4_559_958), 2);
    }

    // ---- INTERVAL, CERTAIN, THE REST

    @Says("INTERVAL (0: not told; at first).")
    static void terms2_interval_0AtFirst() {
        CoinSampler x = Checks.ledger();
        due("at first", x.count(3), 0);
        x.interval(600);
        due("told", x.count(3), 600);
        Checks.tell(x, "item 1 1 1;");
        due("a new ledger", x.count(3), 0);
    }

    @Says("CERTAIN are ITEMS of BOOK INTERVAL or more (if it is told);")
    static void terms2_certain_ofBookIntervalOrMore() {
        CoinSampler x = new CoinSampler();
        x.add(1, 1, 600);
        x.add(1, 2, 599);
        x.add(1, 3, 601);
        due("not told", x.certain(NONE), 0);
        due("told", x.interval(600), 2);
        due("just as much", x.item(0, 6), 1);
        due("one less", x.item(1, 6), 0);
        due("one more", x.item(2, 6), 1);
        x.interval(1);
        x.post(1, 0);
        due("no coins, by the least interval", x.item(1, 6), 0);
        x.post(1, 1);
        due("one coin, by the least interval", x.item(1, 6), 1);
    }

    @Says("THE REST: the other ITEMS that have COINS")
    static void terms2_rest_theOthersThatHaveCoins() {
        CoinSampler x = Checks.ledger();
        x.interval(600);
        int[] first = {0, 1, 301, 0, 0, 0, 801};
        for (int i = 0; i < first.length; i++) {
            due("first coin of " + i, x.item(i, 8), first[i]);
        }
        x.interval(1);
        due("all are certain", x.count(2), 0);
    }

    @Says("(all of these, as long as INTERVAL isn't told);")
    static void terms2_rest_allAsLongAsNoIntervalIsTold() {
        CoinSampler x = Checks.ledger();
        due("M", x.count(2), 2_590);
        int[] first = {1, 1_001, 1_301, 0, 0, 1_801, 2_501};
        for (int i = 0; i < first.length; i++) {
            due("first coin of " + i, x.item(i, 8), first[i]);
        }
    }

    @Says("their COINS are numbered from 1 on, ITEM by ITEM; M: how many these are.")
    static void terms2_coins_numberedFrom1On_m() {
        CoinSampler x = Checks.ledger();
        x.interval(600);
        int[] coins = {1, 300, 301, 800, 801, 890};
        int[] owners = {1, 1, 2, 2, 6, 6};
        for (int i = 0; i < coins.length; i++) {
            due("owner of " + coins[i], x.coin(coins[i], 0), owners[i]);
        }
        due("M", x.count(2), 890);
        due("0", x.coin(0, 0), -2);
        due("M and 1", x.coin(891, 0), -2);
        due("M without items", new CoinSampler().count(2), 0);
    }

    @Says("STRETCH j: COINS from j times INTERVAL and 1 to (j and 1) times INTERVAL.")
    static void terms2_stretch_fromItsFirstToItsLastCoin() {
        CoinSampler x = Checks.ledger();
        x.interval(501);
        x.post(0, 500);
        x.post(5, 500);
        due("M", x.count(2), 1_890);
        int[] coins = {1, 501, 502, 1_002, 1_003, 1_503, 1_504, 1_890};
        int[] stretches = {0, 0, 1, 1, 2, 2, 3, 3};
        for (int i = 0; i < coins.length; i++) {
            due("stretch of " + coins[i], x.coin(coins[i], 1), stretches[i]);
        }
    }

    // ---- RUNS

    @Says("A RUN, 5 at most,")
    static void terms2_run_5AtMost() {
        for (int interval : new int[] {5, 6, 600, 99_999}) {
            CoinSampler x = Sentences.single(1, interval, 7);
            for (int r = 0; r < 5; r++) {
                due("draw " + r + " of " + interval, x.draw() > 0 ? 1 : 0, 1);
            }
            due("a sixth of " + interval, x.draw(), -4);
            due("runs", x.count(4), 5);
        }
    }

    @Says("as many as INTERVAL at most:")
    static void terms2_run_asManyAsIntervalAtMost() {
        for (int interval = 1; interval <= 4; interval++) {
            CoinSampler x = Sentences.single(1, interval, 7);
            int sum = 0;
            for (int r = 0; r < interval; r++) {
                sum += x.draw();
            }
            due("all starts of " + interval, sum, interval * (interval + 1) / 2);
            due("one more of " + interval, x.draw(), -4);
            due("runs", x.count(4), interval);
        }
    }

    @Says("a number s is SEED at first (told anew, it is so anew);")
    static void terms2_s_isSeedAtFirst_toldAnewSoAnew() {
        CoinSampler x = Checks.ledger();
        due("at first", x.count(9), 7);
        x.interval(600);
        x.draw();
        due("it has gone on", x.count(9), 20_066);
        x.terms(4, 7);
        due("the same seed told anew", x.count(9), 7);
        x.terms(4, 0);
        due("the least", x.count(9), 0);
        x.terms(4, 1_000_003);
        due("the greatest", x.count(9), 1_000_003);
        x.terms(4, 1_000_004);
        due("a refused one", x.count(9), 1_000_003);
        x.terms(0, 5);
        due("another term", x.count(9), 1_000_003);
    }

    @Says("to DRAW: s becomes (s times 1,103 and 12,345) modulo 1,000,003;")
    static void terms2_draw_sGoesRoundAt1000003() {
        int[] seeds = {0, 1, 895, 896, 1_000_002, 1_000_003};
        int[] due = {12_345, 13_448, 999_530, 630, 11_242, 12_345};
        for (int i = 0; i < seeds.length; i++) {
            CoinSampler x = Sentences.single(1, 99_999, seeds[i]);
            x.draw();
            due("s behind " + seeds[i], x.count(9), due[i]);
        }
    }

    @Says("START is s modulo INTERVAL, and 1;")
    static void terms2_start_from1ToInterval() {
        due("s is a multiple of it", Sentences.single(1, 12_345, 0).draw(), 1);
        due("s is one less than it", Sentences.single(1, 12_346, 0).draw(), 12_346);
        due("s is one more than it", Sentences.single(1, 12_344, 0).draw(), 2);
        due("s is below it", Sentences.single(1, 99_999, 0).draw(), 12_346);
        due("by the least interval", Sentences.single(1, 1, 0).draw(), 1);
    }

    @Says("DRAWN again, as long as a RUN has that,")
    static void terms2_draw_againAsLongAsARunHasThat() {
        CoinSampler x = Sentences.single(1, 600, 7);
        due("the first", x.draw(), 267);
        x.terms(4, 7);
        due("267 once more, so the next", x.draw(), 478);
        due("s has gone on twice", x.count(9), 145_077);
        x.terms(4, 7);
        due("267 and 478 once more", x.draw(), 597);
        due("s has gone on three times", x.count(9), 31_796);
        x.clear();
        x.terms(4, 7);
        due("no run has it any more", x.draw(), 267);
    }

    @Says("50 times in all at most;")
    static void terms2_draw_50TimesInAllAtMost() {
        // The fifth is drawn 50 times: by the one seed the 50th is new at last, by the other it still isn't.
        drawFive(88_971, new int[] {5, 2, 1, 4, 3}, 726_807);
        drawFive(8_777, new int[] {5, 1, 2, 3, 4}, 969_955);
    }

    private static void drawFive(int seed, int[] starts, int s) {
        CoinSampler x = Sentences.single(1, 5, seed);
        for (int start : starts) {
            due("draw by " + seed, x.draw(), start);
        }
        due("s", x.count(9), s);
    }

    @Says("then START is the lowest that none has.")
    static void terms2_draw_thenTheLowestThatNoneHas() {
        // 311,242 times 1,103 and 12,345 is 311,242 again.
        CoinSampler x = Sentences.single(1, 600, 311_242);
        for (int start : new int[] {443, 1, 2, 3, 4}) {
            due("draw", x.draw(), start);
        }
        due("s", x.count(9), 311_242);
        CoinSampler y = Sentences.single(1, 5, 311_242);
        for (int start : new int[] {3, 1, 2, 4, 5}) {
            due("draw of 5", y.draw(), start);
        }
        CoinSampler below = Sentences.single(1, 10, 4);
        for (int start : new int[] {8, 3, 4}) {
            due("draw of 10", below.draw(), start);
        }
        below.terms(4, 311_242);
        due("3 again and again, so the lowest", below.draw(), 1);
        due("the next lowest", below.draw(), 2);
        CoinSampler z = Sentences.single(1, 2, 311_242);
        for (int start : new int[] {1, 2}) {
            due("draw of 2", z.draw(), start);
        }
    }

    // ---- HITS

    /** Two items of 9 coins and of so many, an interval of 10, a start of 8. */
    private static CoinSampler twoHits(int book) {
        CoinSampler x = Sentences.single(9, 10, 4);
        x.add(1, 2, book);
        due("start", x.draw(), 8);
        return x;
    }

    @Says("It HITS COINS START, START and INTERVAL, and so on, up to M.")
    static void terms2_hits_fromStartUpToM() {
        CoinSampler x = twoHits(9);
        due("two hits", x.count(5), 2);
        due("START", x.hit(0, 1), 8);
        due("START and INTERVAL, which is M", x.hit(1, 1), 18);
        CoinSampler y = twoHits(8);
        due("M is one less", y.count(5), 1);
        due("START alone", y.hit(0, 1), 8);
        CoinSampler z = Sentences.single(8, 10, 4);
        z.draw();
        due("M is START", z.count(5), 1);
        CoinSampler none = Sentences.single(7, 10, 4);
        none.draw();
        due("M is one less than START", none.count(5), 0);
        CoinSampler empty = new CoinSampler();
        empty.interval(10);
        empty.draw();
        due("without coins", empty.count(5), 0);
    }

    @Says("HITS are numbered RUN by RUN, COIN by COIN, from 0 on; n: how many there are.")
    static void terms2_hits_numberedRunByRunCoinByCoin() {
        CoinSampler x = Checks.sampled(4);
        int[] coins = {267, 867, 478, 597, 429};
        int[] runs = {0, 0, 1, 2, 3};
        due("n", x.count(5), 5);
        for (int k = 0; k < coins.length; k++) {
            due("coin of hit " + k, x.hit(k, 1), coins[k]);
            due("run of hit " + k, x.hit(k, 2), runs[k]);
        }
        due("behind the last", x.hit(5, 1), -2);
        due("without a run", Checks.sampled(0).count(5), 0);
    }

    @Says("LACKING: an ITEM that is HIT or CERTAIN and wasn't AUDITED.")
    static void terms2_lacking_hitOrCertainAndNotAudited() {
        CoinSampler x = Checks.sampled(1);
        int[] lacking = {0, 1, 5, 6};
        due("how many", x.lacking(NONE), lacking.length);
        for (int k = 0; k < lacking.length; k++) {
            due("lacking(" + k + ")", x.lacking(k), lacking[k]);
        }
        for (int k = 0; k < lacking.length; k++) {
            x.audit(lacking[k], 0);
            due("behind an audit", x.lacking(NONE), lacking.length - 1 - k);
        }
        x.forget(6);
        due("forgotten", x.lacking(0), 6);
    }
}
