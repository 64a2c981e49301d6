import java.util.ArrayList;
import java.util.Comparator;
import java.util.HashMap;
import java.util.List;
import java.util.Map;
import java.util.TreeSet;
import java.util.function.Predicate;
import java.util.regex.Matcher;
import java.util.regex.Pattern;

/**
 * The document once more, word for word and without care for speed: coins one by one, starts one by one.
 * ModelTest compares it with the program.
 */
public final class PlainSampler {
    private static final int NONE = -1;
    private static final int REFUSED = -10_000_000;

    private static final class Item {
        final int account;
        final int voucher;
        int book;
        Integer audited;

        Item(int account, int voucher, int book) {
            this.account = account;
            this.voucher = voucher;
            this.book = book;
        }

        int coins() {
            return Math.max(0, book);
        }

        int error() {
            return audited == null ? 0 : book - audited;
        }

        long taint() {
            return audited == null ? 0 : 10_000L * error() / book;
        }

        Item copy() {
            Item other = new Item(account, voucher, book);
            other.audited = audited;
            return other;
        }
    }

    private record Hit(int item, int coin, int run) { }

    private record Token(String text, int place) { }

    private record Fault(int kind, int place) { }

    private final List<Integer> tape = new ArrayList<>();
    private List<Item> items = new ArrayList<>();
    private final int[] terms = {50_000, 50, 0, 0, 7};
    private static final int[] LEAST = {1, 1, 0, 0, 0};
    private static final int[] GREATEST = {9_999_999, 500, 9, 1, 1_000_003};
    private int interval = 0;
    private List<Integer> runs = new ArrayList<>();
    private int s = 7;
    private Fault latest = new Fault(0, NONE);

    // ---- what the terms of the document say

    private int allCoins() {
        return items.stream().mapToInt(Item::coins).sum();
    }

    private boolean isCertain(int i, int by) {
        return by > 0 && items.get(i).book >= by;
    }

    private List<Integer> keptKey = List.of();
    private int[] keptRest = {NONE};

    /** The owners of the coins of the rest, coin by coin; place 0 is nobody's. */
    private int[] rest(int by) {
        List<Integer> key = new ArrayList<>(items.stream().map(i -> i.book).toList());
        key.add(by);
        if (!key.equals(keptKey)) {
            keptKey = key;
            keptRest = freshRest(by);
        }
        return keptRest;
    }

    private int[] freshRest(int by) {
        int m = 0;
        for (int i = 0; i < items.size(); i++) {
            m += isCertain(i, by) ? 0 : items.get(i).coins();
        }
        int[] owners = new int[m + 1];
        owners[0] = NONE;
        int c = 0;
        for (int i = 0; i < items.size(); i++) {
            for (int own = 0; !isCertain(i, by) && own < items.get(i).coins(); own++) {
                c++;
                owners[c] = i;
            }
        }
        return owners;
    }

    private int m(int by) {
        return rest(by).length - 1;
    }

    private List<Hit> hits(List<Integer> starts, int by) {
        int[] owners = rest(by);
        List<Hit> found = new ArrayList<>();
        for (int r = 0; r < starts.size(); r++) {
            for (int c = starts.get(r); c < owners.length; c += by) {
                found.add(new Hit(owners[c], c, r));
            }
        }
        return found;
    }

    private List<Hit> hits() {
        return hits(runs, interval);
    }

    private int times(int i, List<Hit> hits) {
        return (int) hits.stream().filter(h -> h.item() == i).count();
    }

    private boolean looked(int i) {
        return isCertain(i, interval) || times(i, hits()) > 0;
    }

    private boolean lacks(int i) {
        return looked(i) && items.get(i).audited == null;
    }

    private static final Map<String, Integer> UPPERS = new HashMap<>();

    static int upperOf(int n, int k, int risk) {
        return UPPERS.computeIfAbsent(n + " " + k + " " + risk, x -> freshUpper(n, k, risk));
    }

    private static int freshUpper(int n, int k, int risk) {
        if (k >= n) {
            return 1_000_000;
        }
        int low = 0;
        int high = 1_000_000;
        while (high > low + 1) {
            int u = (low + high) / 2;
            if (tail(n, k, u) <= (double) risk / (double) 1000) {
                high = u;
            } else {
                low = u;
            }
        }
        return high;
    }

    private static double tail(int n, int k, int u) {
        double p = (double) u / (double) 1_000_000;
        double q = 1 - p;
        if (q == 0) {
            return 0;
        }
        double t = 1;
        for (int i = 0; i < n; i++) {
            t *= q;
        }
        double sum = t;
        for (int j = 1; j <= k; j++) {
            t *= n - j + 1;
            t /= j;
            t *= p;
            t /= q;
            sum += t;
        }
        return sum;
    }

    private int sizeOf(int tolerable, int expect) {
        for (int n = 1; n <= 400; n++) {
            if ((long) allCoins() * upperOf(n, expect, terms[1]) / 1_000_000 <= tolerable) {
                return n;
            }
        }
        return NONE;
    }

    private long projectedOf(Hit h, int howManyRuns) {
        return items.get(h.item()).taint() * interval / (10_000L * howManyRuns);
    }

    private long projectedSide(int side, int howManyRuns) {
        return hits().stream().filter(h -> h.run() < howManyRuns)
            .mapToLong(h -> side * projectedOf(h, howManyRuns)).filter(v -> v > 0).sum();
    }

    private long knownSide(int side) {
        long sum = 0;
        for (int i = 0; i < items.size(); i++) {
            if (isCertain(i, interval) && side * items.get(i).error() > 0) {
                sum += side * items.get(i).error();
            }
        }
        return sum;
    }

    private List<Integer> rankedHits(int side, int howManyRuns) {
        List<Hit> hits = hits();
        List<Integer> ranked = new ArrayList<>();
        for (int h = 0; h < hits.size(); h++) {
            if (hits.get(h).run() < howManyRuns && side * items.get(hits.get(h).item()).taint() > 0) {
                ranked.add(h);
            }
        }
        Comparator<Integer> byTaint = Comparator.comparing(h -> -side * items.get(hits.get(h).item()).taint());
        ranked.sort(byTaint.thenComparing(Comparator.naturalOrder()));
        return ranked;
    }

    private List<Long> risesOf(int side, int howManyRuns, int n, int risk) {
        List<Hit> hits = hits();
        List<Long> rises = new ArrayList<>();
        int j = 1;
        for (int h : rankedHits(side, howManyRuns)) {
            long taint = side * items.get(hits.get(h).item()).taint();
            rises.add((long) m(interval) * (upperOf(n, j, risk) - upperOf(n, j - 1, risk)) * taint / 10_000_000_000L);
            j++;
        }
        return rises;
    }

    private static long sum(List<Long> values) {
        return values.stream().mapToLong(v -> v).sum();
    }

    private long limit(int side, int howManyRuns, int moreHits, int risk) {
        int n = (int) hits().stream().filter(h -> h.run() < howManyRuns).count() + moreHits;
        long basic = (long) m(interval) * upperOf(n, 0, risk) / 1_000_000;
        long made = basic + sum(risesOf(side, howManyRuns, n, risk)) + knownSide(side);
        return terms[3] == 1 ? made - knownSide(-side) - projectedSide(-side, howManyRuns) : made;
    }

    private long boundNow() {
        return limit(1, runs.size(), 0, terms[1]);
    }

    private int listed(int k, Predicate<Integer> belongs) {
        if (k < NONE) {
            return -3;
        }
        List<Integer> all = new ArrayList<>();
        for (int i = 0; i < items.size(); i++) {
            if (belongs.test(i)) {
                all.add(i);
            }
        }
        return k == NONE ? all.size() : k < all.size() ? all.get(k) : NONE;
    }

    private boolean there(int item) {
        return item >= 0 && item < items.size();
    }

    // ---- the face

    public int feed(int a, int b, int c, int d, int e) {
        if (tape.size() + 20 > 900) {
            return -4;
        }
        for (int whole : new int[] {a, b, c, d, e}) {
            for (int shift = 24; shift >= 0; shift -= 8) {
                tape.add(whole >>> shift & 255);
            }
        }
        return tape.size();
    }

    public int text(int n) {
        if (n < 0 || n > tape.size()) {
            return -3;
        }
        StringBuilder told = new StringBuilder();
        for (int i = 0; i < n; i++) {
            told.append((char) (int) tape.get(i));
        }
        tape.clear();
        List<Item> read = new ArrayList<>();
        latest = faultOf(told.toString(), read);
        if (latest.kind() != 0) {
            return -30 - latest.kind();
        }
        items = read;
        interval = 0;
        runs = new ArrayList<>();
        s = terms[4];
        return items.size();
    }

    private static Fault faultOf(String told, List<Item> read) {
        List<Token> tokens = new ArrayList<>();
        Matcher matcher = Pattern.compile("[a-z]+|[0-9]+|[^ ]", Pattern.DOTALL).matcher(told);
        while (matcher.find()) {
            tokens.add(new Token(matcher.group(), matcher.start()));
        }
        tokens.add(new Token("", told.length()));
        int at = 0;
        while (!tokens.get(at).text().isEmpty()) {
            Token word = tokens.get(at++);
            boolean item = word.text().equals("item");
            if (!item && !word.text().equals("audit")) {
                return new Fault(1, word.place());
            }
            int[] numbers = new int[3];
            boolean minus = false;
            for (int i = 0; i < 3; i++) {
                if (item && i == 2 && tokens.get(at).text().equals("-")) {
                    minus = true;
                    at++;
                }
                Token number = tokens.get(at);
                if (!number.text().matches("[0-9]+")) {
                    return new Fault(1, number.place());
                }
                if (number.text().length() > 5) {
                    return new Fault(2, number.place());
                }
                numbers[i] = Integer.parseInt(number.text());
                if (numbers[i] > new int[] {99, 9_999, 99_999}[i]) {
                    return new Fault(2, number.place());
                }
                at++;
            }
            Item same = null;
            for (Item other : read) {
                if (other.account == numbers[0] && other.voucher == numbers[1]) {
                    same = other;
                }
            }
            if (item) {
                if (same != null || read.size() == 48) {
                    return new Fault(3, word.place());
                }
                read.add(new Item(numbers[0], numbers[1], minus ? -numbers[2] : numbers[2]));
            } else {
                if (same == null || same.book <= 0 || numbers[2] > 2 * same.book) {
                    return new Fault(3, word.place());
                }
                same.audited = numbers[2];
            }
            if (!tokens.get(at).text().equals(";")) {
                return new Fault(1, tokens.get(at).place());
            }
            at++;
        }
        return new Fault(0, NONE);
    }

    public int fault(int what) {
        return what == 0 ? latest.kind() : what == 1 ? latest.place() : NONE;
    }

    public int terms(int what, int v) {
        if (what < 0 || what > 4) {
            return -2;
        }
        if (v < LEAST[what] || v > GREATEST[what]) {
            return -3;
        }
        int was = terms[what];
        terms[what] = v;
        s = what == 4 ? v : s;
        return was;
    }

    public int add(int account, int voucher, int book) {
        if (account < 0 || account > 99 || voucher < 0 || voucher > 9_999 || book < -99_999 || book > 99_999) {
            return -3;
        }
        if (items.size() == 48) {
            return -4;
        }
        if (find(account, voucher) != NONE || !runs.isEmpty()) {
            return -5;
        }
        items.add(new Item(account, voucher, book));
        return items.size() - 1;
    }

    public int post(int item, int v) {
        if (!there(item) || v < -99_999 || v > 99_999 || !runs.isEmpty()) {
            return REFUSED;
        }
        int was = items.get(item).book;
        items.get(item).book = v;
        items.get(item).audited = null;
        return was;
    }

    public int audit(int item, int v) {
        if (!there(item)) {
            return -2;
        }
        if (v < 0 || v > 2 * items.get(item).book) {
            return -3;
        }
        if (items.get(item).coins() == 0) {
            return -5;
        }
        int was = item(item, 3);
        items.get(item).audited = v;
        return was;
    }

    public int forget(int item) {
        if (!there(item)) {
            return -2;
        }
        int was = item(item, 3);
        items.get(item).audited = null;
        return was;
    }

    public int interval(int v) {
        if (v < 1 || v > 99_999) {
            return -3;
        }
        if (!runs.isEmpty()) {
            return -5;
        }
        interval = v;
        return certain(NONE);
    }

    public int plan() {
        int n = sizeOf(terms[0], terms[2]);
        if (n == NONE) {
            return -4;
        }
        if (allCoins() == 0 || !runs.isEmpty()) {
            return -5;
        }
        interval = Math.max(1, allCoins() / n);
        return n;
    }

    public int draw() {
        if (interval == 0) {
            return -5;
        }
        if (runs.size() == 5 || runs.size() == interval) {
            return -4;
        }
        int start = 0;
        int draws = 0;
        do {
            s = (int) ((s * 1_103L + 12_345L) % 1_000_003L);
            start = s % interval + 1;
            draws++;
        } while (runs.contains(start) && draws < 50);
        if (runs.contains(start)) {
            start = 1;
            while (runs.contains(start)) {
                start++;
            }
        }
        runs.add(start);
        return start;
    }

    public int clear() {
        int were = runs.size();
        runs = new ArrayList<>();
        return were;
    }

    public int find(int account, int voucher) {
        for (int i = 0; i < items.size(); i++) {
            if (items.get(i).account == account && items.get(i).voucher == voucher) {
                return i;
            }
        }
        return NONE;
    }

    public int item(int item, int what) {
        if (!there(item) || what < 0 || what > 8) {
            return REFUSED;
        }
        Item it = items.get(item);
        return switch (what) {
            case 0 -> it.account;
            case 1 -> it.voucher;
            case 2 -> it.book;
            case 3 -> it.audited == null ? NONE : it.audited;
            case 4 -> it.error();
            case 5 -> (int) it.taint();
            case 6 -> isCertain(item, interval) ? 1 : 0;
            case 7 -> times(item, hits());
            default -> firstCoin(item);
        };
    }

    private int firstCoin(int item) {
        int[] owners = rest(interval);
        for (int c = 1; c < owners.length; c++) {
            if (owners[c] == item) {
                return c;
            }
        }
        return 0;
    }

    public int coin(int c, int what) {
        if (c < 1 || c > m(interval) || what < 0 || what > 2) {
            return -2;
        }
        if (interval == 0) {
            return -5;
        }
        int stretch = 0;
        while (c > (stretch + 1) * interval) {
            stretch++;
        }
        return what == 0 ? rest(interval)[c] : what == 1 ? stretch
            : (int) hits().stream().filter(h -> h.coin() == c).count();
    }

    public int hit(int k, int what) {
        if (k < 0 || k >= hits().size() || what < 0 || what > 3) {
            return -2;
        }
        Hit h = hits().get(k);
        return what == 0 ? h.item() : what == 1 ? h.coin() : what == 2 ? h.run()
            : (int) items.get(h.item()).taint() + 10_000;
    }

    public int start(int k) {
        return k >= 0 && k < runs.size() ? runs.get(k) : -2;
    }

    public int certain(int k) {
        return listed(k, i -> isCertain(i, interval));
    }

    public int lacking(int k) {
        return listed(k, this::lacks);
    }

    public int account(int account, int what) {
        if (account < 0 || account > 99 || what < 0 || what > 5) {
            return REFUSED;
        }
        long sum = 0;
        for (int i = 0; i < items.size(); i++) {
            Item it = items.get(i);
            if (it.account == account) {
                sum += what == 0 ? 1 : what == 1 ? it.book : what == 3 ? it.error()
                    : what == 4 ? item(i, 6) : 0;
            }
        }
        for (Hit h : hits()) {
            if (items.get(h.item()).account == account) {
                sum += what == 2 ? 1 : what == 5 ? projectedOf(h, runs.size()) : 0;
            }
        }
        return (int) sum;
    }

    public int accounts(int k) {
        if (k < NONE) {
            return -3;
        }
        List<Integer> all = items.stream().map(i -> i.account).distinct().toList();
        return k == NONE ? all.size() : k < all.size() ? all.get(k) : NONE;
    }

    public int drawn(int k) {
        return listed(k, this::looked);
    }

    public int line(int k, int i) {
        if (k < 0 || k >= drawn(NONE)) {
            return -2;
        }
        if (i < 0) {
            return -3;
        }
        int item = drawn(k);
        Item it = items.get(item);
        String mark = isCertain(item, interval) ? "!" : "x" + times(item, hits());
        String line = it.account + "/" + it.voucher + " " + it.book + mark
            + (it.audited == null ? "" : " =" + it.audited);
        return i < line.length() ? line.charAt(i) : NONE;
    }

    public int upper(int n, int k) {
        return n < 0 || n > 400 || k < 0 || k > 400 ? -3 : upperOf(n, k, terms[1]);
    }

    public int size(int tolerable) {
        return tolerable < 1 || tolerable > 9_999_999 ? -3 : allCoins() == 0 ? -5 : sizeOf(tolerable, terms[2]);
    }

    public int projected(int what) {
        if (what < 0 || what > 4 || runs.isEmpty()) {
            return REFUSED;
        }
        long[] parts = {projectedSide(1, runs.size()), projectedSide(-1, runs.size()), knownSide(1), knownSide(-1)};
        return (int) (what < 4 ? parts[what] : parts[0] + parts[2] - parts[1] - parts[3]);
    }

    public int taint(int k, int what) {
        List<Integer> ranked = rankedHits(1, runs.size());
        if (k < 0 || k >= ranked.size() || what < 0 || what > 2) {
            return -2;
        }
        return what == 0 ? ranked.get(k) : what == 1 ? (int) items.get(hits().get(ranked.get(k)).item()).taint()
            : (int) (long) risesOf(1, runs.size(), hits().size(), terms[1]).get(k);
    }

    private int boundPart(int what, int side) {
        int n = hits().size();
        long basic = (long) m(interval) * upperOf(n, 0, terms[1]) / 1_000_000;
        return (int) (what == 0 ? basic : what == 1 ? sum(risesOf(side, runs.size(), n, terms[1]))
            : what == 2 ? knownSide(side) : limit(side, runs.size(), 0, terms[1]));
    }

    public int bound(int what) {
        if (what < 0 || what > 4 || runs.isEmpty()) {
            return REFUSED;
        }
        return what == 4 ? terms[0] - boundPart(3, 1) : boundPart(what, 1);
    }

    public int below(int what) {
        return what < 0 || what > 3 || runs.isEmpty() ? REFUSED : boundPart(what, -1);
    }

    public int judged() {
        return runs.isEmpty() ? 0 : lacking(NONE) > 0 ? 1 : boundNow() <= terms[0] ? 2 : 3;
    }

    public int would(int item, int v) {
        if (!there(item) || items.get(item).coins() == 0 || v < 0 || v > 2 * items.get(item).book || runs.isEmpty()) {
            return REFUSED;
        }
        List<Item> kept = items;
        items = new ArrayList<>(items.stream().map(Item::copy).toList());
        items.get(item).audited = v;
        long would = boundNow();
        items = kept;
        return (int) would;
    }

    public int dearest() {
        if (runs.isEmpty()) {
            return -5;
        }
        TreeSet<Long> bounds = new TreeSet<>();
        Map<Long, Integer> firsts = new HashMap<>();
        for (int i = 0; i < items.size(); i++) {
            if (looked(i) && items.get(i).error() > 0) {
                long bound = would(i, items.get(i).book);
                bounds.add(bound);
                firsts.putIfAbsent(bound, i);
            }
        }
        return bounds.isEmpty() ? NONE : firsts.get(bounds.first());
    }

    public int more() {
        if (runs.isEmpty()) {
            return -5;
        }
        for (int r = 0; r + runs.size() <= 5; r++) {
            if (limit(1, runs.size(), r * (m(interval) / interval), terms[1]) <= terms[0]) {
                return r;
            }
        }
        return NONE;
    }

    public int step(int r, int what) {
        if (r < 1 || r > runs.size() || what < 0 || what > 3) {
            return REFUSED;
        }
        List<Integer> kept = runs;
        runs = new ArrayList<>(runs.subList(0, r));
        long answer = what == 0 ? hits().size() : what == 1 ? boundNow()
            : what == 2 ? boundNow() <= terms[0] ? 1 : 0 : lacking(NONE);
        runs = kept;
        return (int) answer;
    }

    public int risky() {
        if (runs.isEmpty()) {
            return -5;
        }
        int low = 0;
        int high = 501;
        while (high > low + 1) {
            int risk = (low + high) / 2;
            if (limit(1, runs.size(), 0, risk) <= terms[0]) {
                high = risk;
            } else {
                low = risk;
            }
        }
        return high == 501 ? NONE : high;
    }

    public int sizes(int e) {
        return e < 0 || e > 9 ? -3 : allCoins() == 0 ? -5 : sizeOf(terms[0], e);
    }

    public int trial(int start, int what) {
        if (what < 0 || what > 3) {
            return -2;
        }
        if (interval == 0) {
            return -5;
        }
        if (start < 1 || start > interval) {
            return -3;
        }
        List<Hit> alone = hits(List.of(start), interval);
        int unseen = 0;
        for (int i = 0; i < items.size(); i++) {
            if ((times(i, alone) > 0 || isCertain(i, interval)) && items.get(i).audited == null) {
                unseen++;
            }
        }
        return what == 0 ? alone.size() : what == 1 ? unseen : what == 2 ? (int) taintAbove(alone)
            : alone.isEmpty() ? 0 : alone.get(alone.size() - 1).coin();
    }

    private long taintAbove(List<Hit> hits) {
        return hits.stream().mapToLong(h -> Math.max(0, items.get(h.item()).taint())).sum();
    }

    public int covered() {
        long looked = 0;
        for (int i = 0; i < items.size(); i++) {
            looked += looked(i) ? items.get(i).coins() : 0;
        }
        return allCoins() == 0 ? 0 : (int) (1_000 * looked / allCoins());
    }

    /** For each start which items it hits, in the order of the coins. */
    private List<List<Integer>> hitByStart() {
        List<List<Integer>> all = new ArrayList<>();
        for (int start = 0; start < interval; start++) {
            all.add(new ArrayList<>(2));
        }
        int[] owners = rest(interval);
        for (int c = 1; c < owners.length; c++) {
            all.get((c - 1) % interval).add(owners[c]);
        }
        return all;
    }

    public int caught(int k) {
        if (k < 0) {
            return -3;
        }
        if (interval == 0) {
            return -5;
        }
        return (int) hitByStart().stream()
            .filter(hit -> hit.stream().filter(i -> items.get(i).error() != 0).distinct().count() == k).count();
    }

    public int worst(int what) {
        if (what < 0 || what > 1) {
            return -2;
        }
        if (interval == 0) {
            return -5;
        }
        List<List<Integer>> all = hitByStart();
        int worst = 0;
        long most = NONE;
        for (int start = 1; start <= interval; start++) {
            long sum = all.get(start - 1).stream().mapToLong(i -> Math.max(0, items.get(i).taint())).sum();
            if (sum > most) {
                most = sum;
                worst = start;
            }
        }
        return what == 0 ? worst : (int) most;
    }

    public int chance(int what) {
        if (what < 0 || what > 1) {
            return -2;
        }
        if (interval == 0) {
            return -5;
        }
        int some = interval - caught(0);
        int common = java.math.BigInteger.valueOf(some).gcd(java.math.BigInteger.valueOf(interval)).intValue();
        return (what == 0 ? some : interval) / common;
    }

    public int were(int v, int start, int what) {
        if (what < 0 || what > 3) {
            return -2;
        }
        if (v < 1 || v > 9_999_999 || start < 1 || start > v) {
            return -3;
        }
        List<Hit> alone = hits(List.of(start), v);
        int certain = 0;
        int kept = 0;
        for (int i = 0; i < items.size(); i++) {
            certain += isCertain(i, v) ? 1 : 0;
            kept += looked(i) && (isCertain(i, v) || times(i, alone) > 0) ? 1 : 0;
        }
        return what == 0 ? certain : what == 1 ? m(v) : what == 2 ? alone.size() : kept;
    }

    public int both(int item, int other) {
        for (int i : new int[] {item, other}) {
            if (!there(i) || items.get(i).coins() == 0 || isCertain(i, interval)) {
                return -2;
            }
        }
        if (interval == 0) {
            return -5;
        }
        return (int) hitByStart().stream().filter(hit -> hit.contains(item) && hit.contains(other)).count();
    }

    public int count(int what) {
        return switch (what) {
            case 0 -> items.size();
            case 1 -> allCoins();
            case 2 -> m(interval);
            case 3 -> interval;
            case 4 -> runs.size();
            case 5 -> hits().size();
            case 6 -> (int) hits().stream().map(Hit::item).distinct().count();
            case 7 -> tape.size();
            case 8 -> (int) items.stream().filter(i -> i.audited != null).count();
            case 9 -> s;
            case 10, 11, 12, 13, 14 -> terms[what - 10];
            default -> NONE;
        };
    }
}
