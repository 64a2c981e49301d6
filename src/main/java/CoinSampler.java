import java.util.Arrays;

/** A ledger that is sampled coin by coin: the items, the walk along their coins, and what it makes. */
public final class CoinSampler {
    public static final int NONE = -1;

    private static final int NO_SUCH = -2;
    private static final int WRONG_NUMBER = -3;
    private static final int TOO_MANY = -4;
    private static final int NOT_NOW = -5;
    private static final int FAULTY_TEXT = -30;
    // Stands for -2, -3 and -5 where an answer may be below 0 itself.
    private static final int REFUSED = -10_000_000;

    private static final int MAX_ITEMS = 48;
    private static final int MAX_ACCOUNT = 99;
    private static final int MAX_VOUCHER = 9_999;
    private static final int MAX_AMOUNT = 99_999;
    private static final int MAX_INTERVAL = 99_999;
    private static final int MAX_SUPPOSED_INTERVAL = 9_999_999;
    private static final int MAX_RUNS = 5;
    private static final int MAX_DRAWS = 50;
    // An item of the rest has fewer coins than the interval, so a run hits each item once at most.
    private static final int MAX_HITS = MAX_RUNS * MAX_ITEMS;
    private static final int TAPE_BYTES = 900;
    private static final int FEED_BYTES = 20;
    private static final int MAX_DIGITS = 5;
    private static final int MAX_N = 400;
    private static final int MILLION = 1_000_000;
    private static final int WHOLE_TAINT = 10_000;
    // More than any halving of a million, or any search for a common divisor of two ints, goes through.
    private static final int MAX_ROUNDS = 60;

    private static final int CANNOT_STAND = 1;
    private static final int OUT_OF_BOUNDS = 2;
    private static final int CANNOT_BE = 3;

    private static final int TOLERABLE = 0;
    private static final int RISK = 1;
    private static final int EXPECT = 2;
    private static final int NET = 3;
    private static final int SEED = 4;
    private static final int TERMS = 5;

    private static final int ABOVE = 1;
    private static final int UNDER = -1;

    private static final int CERTAIN_ONES = 0;
    private static final int LACKING_ONES = 1;
    private static final int DRAWN_ONES = 2;

    private final Tape tape;
    private final Ledger ledger;
    private final Reader reader;
    private final Terms terms;
    private final Layout layout;
    private final Layout supposed;
    private final Walk walk;
    private final Factors factors;
    private final Estimate estimate;
    private final Starts starts;
    private final Line lineText;

    public CoinSampler() {
        tape = new Tape();
        ledger = new Ledger();
        reader = new Reader(tape);
        terms = new Terms();
        layout = new Layout(ledger);
        supposed = new Layout(ledger);
        walk = new Walk(layout);
        factors = new Factors();
        estimate = new Estimate(ledger, layout, walk, terms, factors);
        starts = new Starts(ledger, layout);
        lineText = new Line();
        walk.s = terms.of(SEED);
    }

    // ---- the ledger

    public int feed(int a, int b, int c, int d, int e) {
        if (tape.length + FEED_BYTES > TAPE_BYTES) {
            return TOO_MANY;
        }
        tape.write(a);
        tape.write(b);
        tape.write(c);
        tape.write(d);
        tape.write(e);
        return tape.length;
    }

    public int text(int n) {
        if (n < 0 || n > tape.length) {
            return WRONG_NUMBER;
        }
        reader.read(n);
        tape.length = 0;
        if (reader.fault != 0) {
            return FAULTY_TEXT - reader.fault;
        }
        ledger.become(reader.told);
        walk.forgetRuns();
        walk.s = terms.of(SEED);
        layout.lay(0);
        return ledger.items;
    }

    public int fault(int what) {
        return what == 0 ? reader.fault : what == 1 ? reader.place : NONE;
    }

    public int terms(int what, int v) {
        if (!terms.has(what)) {
            return NO_SUCH;
        }
        if (!terms.allows(what, v)) {
            return WRONG_NUMBER;
        }
        int before = terms.of(what);
        terms.tell(what, v);
        if (what == SEED) {
            walk.s = v;
        }
        return before;
    }

    public int add(int account, int voucher, int book) {
        if (account < 0 || account > MAX_ACCOUNT || voucher < 0 || voucher > MAX_VOUCHER || !isBook(book)) {
            return WRONG_NUMBER;
        }
        if (ledger.isFull()) {
            return TOO_MANY;
        }
        if (ledger.indexOf(account, voucher) != NONE || walk.runs > 0) {
            return NOT_NOW;
        }
        ledger.append(account, voucher, book);
        layout.lay(layout.interval);
        return ledger.items - 1;
    }

    public int post(int item, int v) {
        if (!ledger.holds(item) || !isBook(v) || walk.runs > 0) {
            return REFUSED;
        }
        int before = ledger.book[item];
        ledger.book[item] = v;
        ledger.audited[item] = NONE;
        layout.lay(layout.interval);
        return before;
    }

    public int audit(int item, int v) {
        if (!ledger.holds(item)) {
            return NO_SUCH;
        }
        if (!ledger.mayBeWorth(item, v)) {
            return WRONG_NUMBER;
        }
        if (ledger.coinsOf(item) == 0) {
            return NOT_NOW;
        }
        int before = ledger.audited[item];
        ledger.audited[item] = v;
        return before;
    }

    public int forget(int item) {
        if (!ledger.holds(item)) {
            return NO_SUCH;
        }
        int before = ledger.audited[item];
        ledger.audited[item] = NONE;
        return before;
    }

    public int interval(int v) {
        if (v < 1 || v > MAX_INTERVAL) {
            return WRONG_NUMBER;
        }
        if (walk.runs > 0) {
            return NOT_NOW;
        }
        layout.lay(v);
        return layout.certainItems;
    }

    public int plan() {
        int coins = ledger.allCoins();
        int n = factors.leastN(coins, terms.of(TOLERABLE), terms.of(EXPECT), terms.of(RISK));
        if (n == NONE) {
            return TOO_MANY;
        }
        if (n < 1 || coins == 0 || walk.runs > 0) {
            return NOT_NOW;
        }
        layout.lay(Math.max(1, coins / n));
        return n;
    }

    public int draw() {
        if (layout.interval == 0) {
            return NOT_NOW;
        }
        if (walk.runs >= MAX_RUNS || walk.runs >= layout.interval) {
            return TOO_MANY;
        }
        int drawn = walk.drawStart();
        walk.follow(drawn);
        return drawn;
    }

    public int clear() {
        int before = walk.runs;
        walk.forgetRuns();
        return before;
    }

    // ---- items, coins

    public int find(int account, int voucher) {
        return ledger.indexOf(account, voucher);
    }

    public int item(int item, int what) {
        if (!ledger.holds(item)) {
            return REFUSED;
        }
        switch (what) {
            case 0: return ledger.account[item];
            case 1: return ledger.voucher[item];
            case 2: return ledger.book[item];
            case 3: return ledger.audited[item];
            case 4: return ledger.errorOf(item);
            case 5: return ledger.taintOf(item);
            case 6: return layout.isCertain(item) ? 1 : 0;
            case 7: return walk.timesHit(item, walk.runs);
            case 8: return layout.firstCoin(item);
            default: return REFUSED;
        }
    }

    public int coin(int c, int what) {
        int owner = layout.ownerOf(c);
        if (owner == NONE || what < 0 || what > 2) {
            return NO_SUCH;
        }
        if (layout.interval == 0) {
            return NOT_NOW;
        }
        switch (what) {
            case 0: return owner;
            case 1: return (c - 1) / layout.interval;
            default: return walk.timesCoinHit(c);
        }
    }

    public int hit(int k, int what) {
        if (!walk.hasHit(k)) {
            return NO_SUCH;
        }
        switch (what) {
            case 0: return walk.hitItem[k];
            case 1: return walk.hitCoin[k];
            case 2: return walk.hitRun[k];
            case 3: return ledger.taintOf(walk.hitItem[k]) + WHOLE_TAINT;
            default: return NO_SUCH;
        }
    }

    public int start(int k) {
        return walk.hasRun(k) ? walk.starts[k] : NO_SUCH;
    }

    public int certain(int k) {
        return listed(CERTAIN_ONES, k);
    }

    public int lacking(int k) {
        return listed(LACKING_ONES, k);
    }

    public int account(int account, int what) {
        if (account < 0 || account > MAX_ACCOUNT || what < 0 || what > 5) {
            return REFUSED;
        }
        if (what == 5) {
            estimate.supposeNothing();
        }
        int sum = 0;
        for (int i = 0; i < ledger.items; i++) {
            if (ledger.account[i] == account) {
                sum += shareOf(i, what);
            }
        }
        return sum;
    }

    public int accounts(int k) {
        if (k < NONE) {
            return WRONG_NUMBER;
        }
        int found = 0;
        for (int i = 0; i < ledger.items; i++) {
            if (ledger.isFirstOfAccount(i)) {
                if (found == k) {
                    return ledger.account[i];
                }
                found++;
            }
        }
        return k == NONE ? found : NONE;
    }

    public int drawn(int k) {
        return listed(DRAWN_ONES, k);
    }

    public int line(int k, int i) {
        int item = k < 0 ? NONE : listed(DRAWN_ONES, k);
        if (item == NONE) {
            return NO_SUCH;
        }
        if (i < 0) {
            return WRONG_NUMBER;
        }
        writeLine(item);
        return lineText.signAt(i);
    }

    // ---- what it makes

    public int upper(int n, int k) {
        if (n < 0 || n > MAX_N || k < 0 || k > MAX_N) {
            return WRONG_NUMBER;
        }
        return factors.halved(n, k, terms.of(RISK));
    }

    public int size(int tolerable) {
        if (!terms.allows(TOLERABLE, tolerable)) {
            return WRONG_NUMBER;
        }
        return sizeBy(tolerable, terms.of(EXPECT));
    }

    public int projected(int what) {
        if (walk.runs == 0) {
            return REFUSED;
        }
        estimate.supposeNothing();
        switch (what) {
            case 0: return estimate.projection(ABOVE);
            case 1: return estimate.projection(UNDER);
            case 2: return estimate.known(ABOVE);
            case 3: return estimate.known(UNDER);
            case 4: return estimate.projection(ABOVE) + estimate.known(ABOVE)
                - estimate.projection(UNDER) - estimate.known(UNDER);
            default: return REFUSED;
        }
    }

    public int taint(int k, int what) {
        estimate.supposeNothing();
        estimate.rank(ABOVE);
        if (!estimate.hasRank(k)) {
            return NO_SUCH;
        }
        switch (what) {
            case 0: return estimate.ranked[k];
            case 1: return estimate.rankedTaint[k];
            case 2: return estimate.rise(k);
            default: return NO_SUCH;
        }
    }

    public int bound(int what) {
        if (what < 0 || what > 4 || walk.runs == 0) {
            return REFUSED;
        }
        estimate.supposeNothing();
        return what == 4 ? terms.of(TOLERABLE) - estimate.limit(ABOVE) : estimate.partOf(what, ABOVE);
    }

    public int below(int what) {
        if (what < 0 || what > 3 || walk.runs == 0) {
            return REFUSED;
        }
        estimate.supposeNothing();
        return estimate.partOf(what, UNDER);
    }

    public int judged() {
        if (walk.runs == 0) {
            return 0;
        }
        if (walk.lackingBy(ledger, walk.runs) > 0) {
            return 1;
        }
        estimate.supposeNothing();
        return estimate.isAccepted() ? 2 : 3;
    }

    // ---- on paper

    public int would(int item, int v) {
        if (!ledger.mayBeWorth(item, v) || ledger.coinsOf(item) == 0 || walk.runs == 0) {
            return REFUSED;
        }
        return boundWere(item, v);
    }

    public int dearest() {
        if (walk.runs == 0) {
            return NOT_NOW;
        }
        int best = NONE;
        int least = 0;
        for (int i = 0; i < ledger.items; i++) {
            if (ledger.errorOf(i) > 0 && walk.isLookedAt(i, walk.runs)) {
                int bound = boundWere(i, ledger.book[i]);
                if (best == NONE || bound < least) {
                    best = i;
                    least = bound;
                }
            }
        }
        return best;
    }

    public int more() {
        if (walk.runs == 0 || layout.interval == 0) {
            return NOT_NOW;
        }
        int hitsEach = layout.coins / layout.interval;
        for (int runs = 0; runs <= MAX_RUNS - walk.runs; runs++) {
            estimate.suppose(walk.runs, runs * hitsEach, terms.of(RISK));
            if (estimate.isAccepted()) {
                return runs;
            }
        }
        return NONE;
    }

    public int step(int r, int what) {
        if (!walk.hasRun(r - 1)) {
            return REFUSED;
        }
        estimate.suppose(r, 0, terms.of(RISK));
        switch (what) {
            case 0: return walk.hitsOf(r);
            case 1: return estimate.limit(ABOVE);
            case 2: return estimate.isAccepted() ? 1 : 0;
            case 3: return walk.lackingBy(ledger, r);
            default: return REFUSED;
        }
    }

    public int risky() {
        if (walk.runs == 0) {
            return NOT_NOW;
        }
        int beyond = terms.greatest(RISK) + 1;
        int low = 0;
        int high = beyond;
        for (int round = 0; round < MAX_ROUNDS && high - low > 1; round++) {
            int risk = (low + high) / 2;
            estimate.suppose(walk.runs, 0, risk);
            if (estimate.isAccepted()) {
                high = risk;
            } else {
                low = risk;
            }
        }
        return high == beyond ? NONE : high;
    }

    public int sizes(int e) {
        if (!terms.allows(EXPECT, e)) {
            return WRONG_NUMBER;
        }
        return sizeBy(terms.of(TOLERABLE), e);
    }

    public int trial(int start, int what) {
        if (what < 0 || what > 3) {
            return NO_SUCH;
        }
        if (layout.interval == 0) {
            return NOT_NOW;
        }
        if (start < 1 || start > layout.interval) {
            return WRONG_NUMBER;
        }
        switch (what) {
            case 0: return layout.hitsFrom(start);
            case 1: return starts.notAudited(start);
            case 2: return starts.taintsAbove(start);
            default: return layout.lastHitFrom(start);
        }
    }

    public int covered() {
        int all = ledger.allCoins();
        if (all == 0) {
            return 0;
        }
        long looked = 0;
        for (int i = 0; i < ledger.items; i++) {
            if (walk.isLookedAt(i, walk.runs)) {
                looked += ledger.coinsOf(i);
            }
        }
        return (int) (looked * 1_000 / all);
    }

    public int caught(int k) {
        if (k < 0) {
            return WRONG_NUMBER;
        }
        if (layout.interval == 0) {
            return NOT_NOW;
        }
        starts.markErrors();
        return starts.catching(k);
    }

    public int worst(int what) {
        if (what != 0 && what != 1) {
            return NO_SUCH;
        }
        if (layout.interval == 0) {
            return NOT_NOW;
        }
        int worst = starts.withMostTaint();
        return what == 0 ? worst : starts.taintsAbove(worst);
    }

    public int chance(int what) {
        if (what != 0 && what != 1) {
            return NO_SUCH;
        }
        if (layout.interval == 0) {
            return NOT_NOW;
        }
        starts.markErrors();
        int catching = layout.interval - starts.catching(0);
        int common = commonDivisor(layout.interval, catching);
        if (common == 0) {
            return NOT_NOW;
        }
        return (what == 0 ? catching : layout.interval) / common;
    }

    public int were(int v, int start, int what) {
        if (what < 0 || what > 3) {
            return NO_SUCH;
        }
        if (v < 1 || v > MAX_SUPPOSED_INTERVAL || start < 1 || start > v) {
            return WRONG_NUMBER;
        }
        supposed.lay(v);
        switch (what) {
            case 0: return supposed.certainItems;
            case 1: return supposed.coins;
            case 2: return supposed.hitsFrom(start);
            default: return keptBy(start);
        }
    }

    public int both(int item, int other) {
        if (layout.firstCoin(item) == 0 || layout.firstCoin(other) == 0) {
            return NO_SUCH;
        }
        if (layout.interval == 0) {
            return NOT_NOW;
        }
        starts.markTwo(item, other);
        return starts.catching(item == other ? 1 : 2);
    }

    public int count(int what) {
        if (what >= 10 && terms.has(what - 10)) {
            return terms.of(what - 10);
        }
        switch (what) {
            case 0: return ledger.items;
            case 1: return ledger.allCoins();
            case 2: return layout.coins;
            case 3: return layout.interval;
            case 4: return walk.runs;
            case 5: return walk.hitsOf(walk.runs);
            case 6: return itemsHit();
            case 7: return tape.length;
            case 8: return ledger.auditedItems();
            case 9: return walk.s;
            default: return NONE;
        }
    }

    // ---- what several calls share

    private static boolean isBook(int v) {
        return v >= -MAX_AMOUNT && v <= MAX_AMOUNT;
    }

    private static int commonDivisor(int a, int b) {
        int greater = a;
        int less = b;
        for (int round = 0; round < MAX_ROUNDS && less > 0; round++) {
            int rest = greater % less;
            greater = less;
            less = rest;
        }
        return greater;
    }

    private int listed(int kind, int k) {
        if (k < NONE) {
            return WRONG_NUMBER;
        }
        int found = 0;
        for (int i = 0; i < ledger.items; i++) {
            if (isOfKind(kind, i)) {
                if (found == k) {
                    return i;
                }
                found++;
            }
        }
        return k == NONE ? found : NONE;
    }

    private boolean isOfKind(int kind, int item) {
        switch (kind) {
            case CERTAIN_ONES: return layout.isCertain(item);
            case LACKING_ONES: return !ledger.isAudited(item) && walk.isLookedAt(item, walk.runs);
            default: return walk.isLookedAt(item, walk.runs);
        }
    }

    private int shareOf(int item, int what) {
        switch (what) {
            case 0: return 1;
            case 1: return ledger.book[item];
            case 2: return walk.timesHit(item, walk.runs);
            case 3: return ledger.errorOf(item);
            case 4: return layout.isCertain(item) ? 1 : 0;
            default: return estimate.projectionOfHit(item) * walk.timesHit(item, walk.runs);
        }
    }

    private void writeLine(int item) {
        lineText.length = 0;
        lineText.number(ledger.account[item]);
        lineText.sign('/');
        lineText.number(ledger.voucher[item]);
        lineText.sign(' ');
        lineText.number(ledger.book[item]);
        if (layout.isCertain(item)) {
            lineText.sign('!');
        } else {
            lineText.sign('x');
            lineText.number(walk.timesHit(item, walk.runs));
        }
        if (ledger.isAudited(item)) {
            lineText.sign(' ');
            lineText.sign('=');
            lineText.number(ledger.audited[item]);
        }
    }

    private int sizeBy(int tolerable, int expect) {
        int coins = ledger.allCoins();
        if (coins == 0) {
            return NOT_NOW;
        }
        return factors.leastN(coins, tolerable, expect, terms.of(RISK));
    }

    // What an item was worth is put back, so that on paper nothing changes.
    private int boundWere(int item, int v) {
        int before = ledger.audited[item];
        ledger.audited[item] = v;
        estimate.supposeNothing();
        int bound = estimate.limit(ABOVE);
        ledger.audited[item] = before;
        return bound;
    }

    private int keptBy(int start) {
        int kept = 0;
        for (int i = 0; i < ledger.items; i++) {
            if (walk.isLookedAt(i, walk.runs) && (supposed.isCertain(i) || supposed.strikes(start, i))) {
                kept++;
            }
        }
        return kept;
    }

    private int itemsHit() {
        int hit = 0;
        for (int i = 0; i < ledger.items; i++) {
            if (walk.timesHit(i, walk.runs) > 0) {
                hit++;
            }
        }
        return hit;
    }

    /** The bytes that were fed and aren't read yet. */
    private static final class Tape {
        final byte[] bytes = new byte[TAPE_BYTES];
        int length;

        void write(int fourBytes) {
            for (int shift = 24; shift >= 0 && length < TAPE_BYTES; shift -= 8) {
                bytes[length] = (byte) (fourBytes >> shift);
                length++;
            }
        }

        int byteAt(int i) {
            return i >= 0 && i < length ? bytes[i] & 255 : NONE;
        }
    }

    /** The items, and what they were worth when they were looked at. */
    private static final class Ledger {
        final int[] account = new int[MAX_ITEMS];
        final int[] voucher = new int[MAX_ITEMS];
        final int[] book = new int[MAX_ITEMS];
        final int[] audited = new int[MAX_ITEMS];
        int items;

        boolean holds(int i) {
            return i >= 0 && i < items;
        }

        boolean isFull() {
            return items >= MAX_ITEMS;
        }

        void append(int itsAccount, int itsVoucher, int itsBook) {
            if (isFull()) {
                return;
            }
            account[items] = itsAccount;
            voucher[items] = itsVoucher;
            book[items] = itsBook;
            audited[items] = NONE;
            items++;
        }

        void become(Ledger other) {
            items = 0;
            for (int i = 0; i < other.items; i++) {
                append(other.account[i], other.voucher[i], other.book[i]);
                audited[i] = other.audited[i];
            }
        }

        int indexOf(int itsAccount, int itsVoucher) {
            for (int i = 0; i < items; i++) {
                if (account[i] == itsAccount && voucher[i] == itsVoucher) {
                    return i;
                }
            }
            return NONE;
        }

        boolean isFirstOfAccount(int i) {
            for (int earlier = 0; earlier < i && i < items; earlier++) {
                if (account[earlier] == account[i]) {
                    return false;
                }
            }
            return holds(i);
        }

        int coinsOf(int i) {
            return holds(i) ? Math.max(book[i], 0) : 0;
        }

        int allCoins() {
            int sum = 0;
            for (int i = 0; i < items; i++) {
                sum += coinsOf(i);
            }
            return sum;
        }

        boolean mayBeWorth(int i, int v) {
            return holds(i) && v >= 0 && v <= 2 * book[i];
        }

        boolean isAudited(int i) {
            return i >= 0 && i < items && audited[i] != NONE;
        }

        int auditedItems() {
            int sum = 0;
            for (int i = 0; i < items; i++) {
                if (isAudited(i)) {
                    sum++;
                }
            }
            return sum;
        }

        int errorOf(int i) {
            return isAudited(i) ? book[i] - audited[i] : 0;
        }

        int taintOf(int i) {
            int coins = coinsOf(i);
            return coins == 0 ? 0 : (int) ((long) WHOLE_TAINT * errorOf(i) / coins);
        }
    }

    /** Reads a ledger from the tape, up to the first fault. */
    private static final class Reader {
        final Ledger told = new Ledger();
        int fault;
        int place = NONE;
        private final Tape tape;
        private int end;
        private int at;

        Reader(Tape tape) {
            this.tape = tape;
        }

        void read(int n) {
            told.items = 0;
            fault = 0;
            place = NONE;
            end = n;
            at = 0;
            skipBlanks();
            for (int lines = 0; lines < TAPE_BYTES && at < end && fault == 0; lines++) {
                readLine();
                skipBlanks();
            }
        }

        private void readLine() {
            int from = at;
            skipWord();
            boolean isItem = isWord(from, "item");
            if (!isItem && !isWord(from, "audit")) {
                fail(CANNOT_STAND, from);
            }
            int account = readNumber(MAX_ACCOUNT);
            int voucher = readNumber(MAX_VOUCHER);
            boolean minus = isItem && skipSign('-');
            int amount = readNumber(MAX_AMOUNT);
            if (fault != 0) {
                return;
            }
            boolean taken = isItem ? takeItem(account, voucher, minus ? -amount : amount)
                : takeAudit(account, voucher, amount);
            if (!taken) {
                fail(CANNOT_BE, from);
            } else if (!skipSign(';')) {
                fail(CANNOT_STAND, at);
            }
        }

        private boolean takeItem(int account, int voucher, int book) {
            if (told.isFull() || told.indexOf(account, voucher) != NONE) {
                return false;
            }
            told.append(account, voucher, book);
            return true;
        }

        private boolean takeAudit(int account, int voucher, int worth) {
            int item = told.indexOf(account, voucher);
            if (told.coinsOf(item) == 0 || !told.mayBeWorth(item, worth)) {
                return false;
            }
            told.audited[item] = worth;
            return true;
        }

        // Only the first fault along the text counts.
        private void fail(int what, int where) {
            if (fault == 0) {
                fault = what;
                place = where;
            }
        }

        private int here() {
            return at < end ? tape.byteAt(at) : NONE;
        }

        private void skipBlanks() {
            while (at < end && here() == ' ') {
                at++;
            }
        }

        private void skipWord() {
            while (at < end && here() >= 'a' && here() <= 'z') {
                at++;
            }
        }

        private boolean isWord(int from, String word) {
            if (at - from != word.length()) {
                return false;
            }
            for (int i = 0; i < word.length(); i++) {
                if (tape.byteAt(from + i) != word.charAt(i)) {
                    return false;
                }
            }
            return true;
        }

        private boolean skipSign(char sign) {
            skipBlanks();
            if (here() != sign) {
                return false;
            }
            at++;
            return true;
        }

        private int readNumber(int greatest) {
            skipBlanks();
            int from = at;
            int value = 0;
            while (at < end && here() >= '0' && here() <= '9') {
                if (at - from < MAX_DIGITS) {
                    value = 10 * value + here() - '0';
                }
                at++;
            }
            if (at == from) {
                fail(CANNOT_STAND, from);
            } else if (at - from > MAX_DIGITS || value > greatest) {
                fail(OUT_OF_BOUNDS, from);
            }
            return value;
        }
    }

    /** The terms and their bounds. */
    private static final class Terms {
        private static final int[] LEAST = {1, 1, 0, 0, 0};
        private static final int[] GREATEST = {9_999_999, 500, 9, 1, 1_000_003};
        private final int[] value = {50_000, 50, 0, 0, 7};

        boolean has(int what) {
            return what >= 0 && what < TERMS;
        }

        boolean allows(int what, int v) {
            return has(what) && v >= LEAST[what] && v <= GREATEST[what];
        }

        int greatest(int what) {
            return has(what) ? GREATEST[what] : NONE;
        }

        int of(int what) {
            return has(what) ? value[what] : NONE;
        }

        void tell(int what, int v) {
            if (has(what)) {
                value[what] = v;
            }
        }
    }

    /** By an interval: which items are certain, and where the coins of the rest lie. */
    private static final class Layout {
        int interval;
        int coins;
        int certainItems;
        private final Ledger ledger;
        private final int[] first = new int[MAX_ITEMS];
        private final int[] last = new int[MAX_ITEMS];

        Layout(Ledger ledger) {
            this.ledger = ledger;
        }

        // An interval of 0 stands for none: then nothing is certain.
        void lay(int newInterval) {
            interval = newInterval;
            coins = 0;
            certainItems = 0;
            for (int i = 0; i < ledger.items; i++) {
                first[i] = 0;
                last[i] = 0;
                if (isCertain(i)) {
                    certainItems++;
                } else if (ledger.coinsOf(i) > 0) {
                    first[i] = coins + 1;
                    coins += ledger.coinsOf(i);
                    last[i] = coins;
                }
            }
        }

        boolean isCertain(int i) {
            return interval > 0 && ledger.coinsOf(i) >= interval;
        }

        // 0 stands for an item that isn't of the rest.
        int firstCoin(int i) {
            return ledger.holds(i) ? first[i] : 0;
        }

        int lastCoin(int i) {
            return ledger.holds(i) ? last[i] : 0;
        }

        int ownerOf(int c) {
            for (int i = 0; i < ledger.items; i++) {
                if (first[i] > 0 && c >= first[i] && c <= last[i]) {
                    return i;
                }
            }
            return NONE;
        }

        int hitsFrom(int start) {
            return interval == 0 || start > coins ? 0 : (coins - start) / interval + 1;
        }

        int lastHitFrom(int start) {
            int hits = hitsFrom(start);
            return hits == 0 ? 0 : start + (hits - 1) * interval;
        }

        boolean strikes(int start, int i) {
            int from = firstCoin(i);
            if (interval == 0 || from == 0) {
                return false;
            }
            return from + Math.floorMod(start - from, interval) <= lastCoin(i);
        }
    }

    /** The runs that were drawn, and their hits. */
    private static final class Walk {
        int s;
        int runs;
        final int[] starts = new int[MAX_RUNS];
        final int[] hitItem = new int[MAX_HITS];
        final int[] hitCoin = new int[MAX_HITS];
        final int[] hitRun = new int[MAX_HITS];
        private final int[] hitsBehind = new int[MAX_RUNS];
        private final Layout layout;

        Walk(Layout layout) {
            this.layout = layout;
        }

        void forgetRuns() {
            runs = 0;
        }

        boolean hasRun(int k) {
            return k >= 0 && k < runs;
        }

        boolean hasHit(int k) {
            return k >= 0 && k < hitsOf(runs);
        }

        int hitsOf(int firstRuns) {
            return hasRun(firstRuns - 1) ? hitsBehind[firstRuns - 1] : 0;
        }

        int drawStart() {
            if (layout.interval == 0) {
                return NONE;
            }
            for (int draws = 0; draws < MAX_DRAWS; draws++) {
                s = (int) ((s * 1_103L + 12_345) % 1_000_003);
                int start = s % layout.interval + 1;
                if (!isStart(start)) {
                    return start;
                }
            }
            return lowestFree();
        }

        private boolean isStart(int start) {
            for (int r = 0; r < runs; r++) {
                if (starts[r] == start) {
                    return true;
                }
            }
            return false;
        }

        private int lowestFree() {
            int start = 1;
            while (start <= runs && isStart(start)) {
                start++;
            }
            return start;
        }

        void follow(int start) {
            if (runs >= MAX_RUNS) {
                return;
            }
            int hits = hitsOf(runs);
            int ahead = layout.hitsFrom(start);
            for (int j = 0; j < ahead && hits < MAX_HITS; j++) {
                hitCoin[hits] = start + j * layout.interval;
                hitItem[hits] = layout.ownerOf(hitCoin[hits]);
                hitRun[hits] = runs;
                hits++;
            }
            starts[runs] = start;
            hitsBehind[runs] = hits;
            runs++;
        }

        int timesHit(int item, int firstRuns) {
            int times = 0;
            for (int r = 0; r < firstRuns && r < runs; r++) {
                if (layout.strikes(starts[r], item)) {
                    times++;
                }
            }
            return times;
        }

        int timesCoinHit(int c) {
            int times = 0;
            for (int h = 0; h < hitsOf(runs); h++) {
                if (hitCoin[h] == c) {
                    times++;
                }
            }
            return times;
        }

        boolean isLookedAt(int item, int firstRuns) {
            return layout.isCertain(item) || timesHit(item, firstRuns) > 0;
        }

        int lackingBy(Ledger ledger, int firstRuns) {
            int lacking = 0;
            for (int i = 0; i < ledger.items; i++) {
                if (!ledger.isAudited(i) && isLookedAt(i, firstRuns)) {
                    lacking++;
                }
            }
            return lacking;
        }
    }

    /** Upper bounds by binomial factors. */
    private static final class Factors {
        // 0 stands for one that isn't known yet: an upper bound is 1 at least.
        private final int[] kept = new int[MAX_N + 1];
        private int keptN = NONE;
        private int keptRisk = NONE;

        // A bound asks for the same few again and again, and each is dear.
        int upperOf(int n, int k, int risk) {
            if (k < 0 || k > MAX_N) {
                return MILLION;
            }
            if (n != keptN || risk != keptRisk) {
                Arrays.fill(kept, 0);
                keptN = n;
                keptRisk = risk;
            }
            if (kept[k] == 0) {
                kept[k] = halved(n, k, risk);
            }
            return kept[k];
        }

        int halved(int n, int k, int risk) {
            if (k >= n) {
                return MILLION;
            }
            double allowed = risk / 1000.0;
            int low = 0;
            int high = MILLION;
            for (int round = 0; round < MAX_ROUNDS && high - low > 1; round++) {
                int u = (low + high) / 2;
                if (isWithin(allowed, n, k, u)) {
                    high = u;
                } else {
                    low = u;
                }
            }
            return high;
        }

        private boolean isWithin(double allowed, int n, int k, int u) {
            double p = u / 1000000.0;
            double q = 1.0 - p;
            if (q <= 0.0) {
                return true;
            }
            double t = 1.0;
            for (int i = 0; i < n; i++) {
                t = t * q;
            }
            double s = t;
            // What comes is never below 0, so a sum that is too great already stays so.
            for (int j = 1; j <= k && s <= allowed; j++) {
                t = t * (n - j + 1) / j * p / q;
                s = s + t;
            }
            return s <= allowed;
        }

        // By halving: an upper bound falls as n grows, at every risk and expectation that may be told.
        int leastN(int coins, int tolerable, int expect, int risk) {
            int low = 0;
            int high = MAX_N + 1;
            for (int round = 0; round < MAX_ROUNDS && high - low > 1; round++) {
                int n = (low + high) / 2;
                if ((long) coins * halved(n, expect, risk) / MILLION <= tolerable) {
                    high = n;
                } else {
                    low = n;
                }
            }
            return high > MAX_N ? NONE : high;
        }
    }

    /** What the hits make for all, by the first runs, more hits without a taint, another risk. */
    private static final class Estimate {
        final int[] ranked = new int[MAX_HITS];
        // Without sign.
        final int[] rankedTaint = new int[MAX_HITS];
        private int ranks;
        private int runs;
        private int hits;
        private int n;
        private int risk;
        private final Ledger ledger;
        private final Layout layout;
        private final Walk walk;
        private final Terms terms;
        private final Factors factors;

        Estimate(Ledger ledger, Layout layout, Walk walk, Terms terms, Factors factors) {
            this.ledger = ledger;
            this.layout = layout;
            this.walk = walk;
            this.terms = terms;
            this.factors = factors;
        }

        void supposeNothing() {
            suppose(walk.runs, 0, terms.of(RISK));
        }

        void suppose(int firstRuns, int moreHits, int otherRisk) {
            runs = firstRuns;
            hits = walk.hitsOf(firstRuns);
            n = hits + moreHits;
            risk = otherRisk;
        }

        int projectionOfHit(int item) {
            if (runs <= 0) {
                return 0;
            }
            return (int) ((long) ledger.taintOf(item) * layout.interval / (WHOLE_TAINT * runs));
        }

        int projection(int side) {
            int sum = 0;
            for (int h = 0; h < hits && walk.hasHit(h); h++) {
                sum += Math.max(0, side * projectionOfHit(walk.hitItem[h]));
            }
            return sum;
        }

        int known(int side) {
            int sum = 0;
            for (int i = 0; i < ledger.items; i++) {
                if (layout.isCertain(i)) {
                    sum += Math.max(0, side * ledger.errorOf(i));
                }
            }
            return sum;
        }

        int basic() {
            return (int) ((long) layout.coins * factors.upperOf(n, 0, risk) / MILLION);
        }

        // The hits whose taints lie on a side, the greatest first, of like ones the lower first.
        void rank(int side) {
            ranks = 0;
            for (int h = 0; h < hits && walk.hasHit(h) && ranks < MAX_HITS; h++) {
                int taint = side * ledger.taintOf(walk.hitItem[h]);
                if (taint > 0) {
                    int place = ranks;
                    while (place > 0 && rankedTaint[place - 1] < taint) {
                        ranked[place] = ranked[place - 1];
                        rankedTaint[place] = rankedTaint[place - 1];
                        place--;
                    }
                    ranked[place] = h;
                    rankedTaint[place] = taint;
                    ranks++;
                }
            }
        }

        boolean hasRank(int k) {
            return k >= 0 && k < ranks;
        }

        int rise(int k) {
            if (!hasRank(k)) {
                return 0;
            }
            long width = factors.upperOf(n, k + 1, risk) - factors.upperOf(n, k, risk);
            return (int) (layout.coins * width * rankedTaint[k] / 10_000_000_000L);
        }

        int rises(int side) {
            rank(side);
            int sum = 0;
            for (int k = 0; k < ranks; k++) {
                sum += rise(k);
            }
            return sum;
        }

        // The upper bound of what is too much in the books, or on the other side of what is too little.
        int limit(int side) {
            int gross = basic() + rises(side) + known(side);
            if (terms.of(NET) == 0) {
                return gross;
            }
            return gross - known(-side) - projection(-side);
        }

        int partOf(int what, int side) {
            switch (what) {
                case 0: return basic();
                case 1: return rises(side);
                case 2: return known(side);
                default: return limit(side);
            }
        }

        boolean isAccepted() {
            return limit(ABOVE) <= terms.of(TOLERABLE);
        }
    }

    /** Which starts of one run alone would hit which items. */
    private static final class Starts {
        private final Ledger ledger;
        private final Layout layout;
        private final boolean[] marked = new boolean[MAX_ITEMS];
        // From one cut to the next all starts hit the same items.
        private final int[] cuts = new int[MAX_ITEMS + 1];
        private int cutCount;

        Starts(Ledger ledger, Layout layout) {
            this.ledger = ledger;
            this.layout = layout;
        }

        int notAudited(int start) {
            int sum = 0;
            for (int i = 0; i < ledger.items; i++) {
                if (!ledger.isAudited(i) && (layout.isCertain(i) || layout.strikes(start, i))) {
                    sum++;
                }
            }
            return sum;
        }

        int taintsAbove(int start) {
            int sum = 0;
            for (int i = 0; i < ledger.items; i++) {
                if (layout.strikes(start, i)) {
                    sum += Math.max(0, ledger.taintOf(i));
                }
            }
            return sum;
        }

        void markErrors() {
            for (int i = 0; i < ledger.items; i++) {
                marked[i] = layout.firstCoin(i) > 0 && ledger.errorOf(i) != 0;
            }
        }

        void markTwo(int one, int other) {
            for (int i = 0; i < ledger.items; i++) {
                marked[i] = i == one || i == other;
            }
        }

        // How many starts hit just k of the marked items.
        int catching(int k) {
            cutUp();
            int sum = 0;
            for (int c = 0; c < cutCount; c++) {
                if (markedHits(cuts[c]) == k) {
                    int next = c + 1 < cutCount ? cuts[c + 1] : layout.interval + 1;
                    sum += next - cuts[c];
                }
            }
            return sum;
        }

        int withMostTaint() {
            cutUp();
            int best = 1;
            int most = taintsAbove(best);
            for (int c = 0; c < cutCount; c++) {
                int taints = taintsAbove(cuts[c]);
                if (taints > most) {
                    most = taints;
                    best = cuts[c];
                }
            }
            return best;
        }

        private int markedHits(int start) {
            int sum = 0;
            for (int i = 0; i < ledger.items; i++) {
                if (marked[i] && layout.strikes(start, i)) {
                    sum++;
                }
            }
            return sum;
        }

        // An item of the rest begins right behind the one ahead of it, so the ends of the items are all there is.
        private void cutUp() {
            cutCount = 0;
            if (layout.interval == 0) {
                return;
            }
            insertCut(1);
            for (int i = 0; i < ledger.items; i++) {
                if (layout.firstCoin(i) > 0) {
                    insertCut(layout.lastCoin(i) % layout.interval + 1);
                }
            }
        }

        private void insertCut(int start) {
            if (cutCount >= cuts.length) {
                return;
            }
            int place = cutCount;
            while (place > 0 && cuts[place - 1] > start) {
                cuts[place] = cuts[place - 1];
                place--;
            }
            cuts[place] = start;
            cutCount++;
        }
    }

    /** A line of the list of what is to be looked at. */
    private static final class Line {
        // 99/9999 99999x5 =199998 and some to spare.
        private final char[] signs = new char[32];
        int length;

        void sign(char c) {
            if (length < signs.length) {
                signs[length] = c;
                length++;
            }
        }

        // No number in a line is below 0.
        void number(int v) {
            int unit = 1;
            for (int digits = 1; digits < 10 && unit <= v / 10; digits++) {
                unit *= 10;
            }
            for (; unit > 0; unit /= 10) {
                sign((char) ('0' + v / unit % 10));
            }
        }

        int signAt(int i) {
            return i >= 0 && i < length && i < signs.length ? signs[i] : NONE;
        }
    }
}
