import java.util.List;
import java.util.function.Supplier;
import java.util.function.ToIntFunction;

/** Promises 1 to 13, sentence by sentence: telling a ledger, terms, changing it, drawing. */
public final class Promises1To13Test {
    private static final int NONE = Sentences.NONE;
    private static final int REFUSED = Sentences.REFUSED;

    public static void main(String[] args) {
        Sentences.run(Promises1To13Test.class);
    }

    private static void due(String call, long got, long due) {
        Sentences.due(call, got, due);
    }

    private static void keeps(Supplier<CoinSampler> made, String call, ToIntFunction<CoinSampler> ask, int due) {
        Sentences.keeps(made, call, ask, due);
    }

    // ---- promise 1

    @Says("An empty LEDGER.")
    static void promise1_anEmptyLedger() {
        CoinSampler x = new CoinSampler();
        int[] counts = {0, 0, 0, 0, 0, 0, 0, 0, 0, 7, 50_000, 50, 0, 0, 7};
        for (int what = 0; what < counts.length; what++) {
            due("count(" + what + ")", x.count(what), counts[what]);
        }
        due("no fault", x.fault(0), 0);
        due("no place", x.fault(1), NONE);
        due("no item", x.item(0, 0), REFUSED);
        due("no account", x.accounts(NONE), 0);
        due("nothing to be looked at", x.drawn(NONE), 0);
        due("no run", x.judged(), 0);
    }

    @Says("An empty LEDGER.")
    static void promise1_eachObjectHasItsOwn() {
        CoinSampler x = Checks.audited(2);
        CoinSampler y = new CoinSampler();
        y.terms(0, 5);
        y.add(9, 9, 9);
        y.feed(0, 0, 0, 0, 0);
        due("items of the one", x.count(0), 7);
        due("tolerable of the one", x.count(10), 50_000);
        due("tape of the one", x.count(7), 0);
        due("items of the other", y.count(0), 1);
        due("runs of the other", y.count(4), 0);
    }

    @Says("An empty LEDGER.")
    static void promise1_whatIsAskedBeforeThereIsAnything() {
        keeps(CoinSampler::new, "text of a byte", x -> x.text(1), -3);
        keeps(CoinSampler::new, "text of none", x -> x.text(0), 0);
        keeps(CoinSampler::new, "fault", x -> x.fault(0), 0);
        keeps(CoinSampler::new, "post", x -> x.post(0, 0), REFUSED);
        keeps(CoinSampler::new, "audit", x -> x.audit(0, 0), -2);
        keeps(CoinSampler::new, "forget", x -> x.forget(0), -2);
        keeps(CoinSampler::new, "plan", CoinSampler::plan, -5);
        keeps(CoinSampler::new, "draw", CoinSampler::draw, -5);
        keeps(CoinSampler::new, "clear", CoinSampler::clear, 0);
        keeps(CoinSampler::new, "find", x -> x.find(0, 0), NONE);
        keeps(CoinSampler::new, "item", x -> x.item(0, 0), REFUSED);
        keeps(CoinSampler::new, "coin", x -> x.coin(1, 0), -2);
        keeps(CoinSampler::new, "hit", x -> x.hit(0, 0), -2);
        keeps(CoinSampler::new, "start", x -> x.start(0), -2);
        keeps(CoinSampler::new, "certain", x -> x.certain(0), NONE);
        keeps(CoinSampler::new, "lacking", x -> x.lacking(0), NONE);
        keeps(CoinSampler::new, "account", x -> x.account(0, 5), 0);
        keeps(CoinSampler::new, "accounts", x -> x.accounts(0), NONE);
        keeps(CoinSampler::new, "drawn", x -> x.drawn(0), NONE);
        keeps(CoinSampler::new, "line", x -> x.line(0, 0), -2);
        keeps(CoinSampler::new, "upper", x -> x.upper(0, 0), 1_000_000);
        keeps(CoinSampler::new, "size", x -> x.size(1), -5);
        keeps(CoinSampler::new, "projected", x -> x.projected(0), REFUSED);
        keeps(CoinSampler::new, "taint", x -> x.taint(0, 0), -2);
        keeps(CoinSampler::new, "bound", x -> x.bound(0), REFUSED);
        keeps(CoinSampler::new, "below", x -> x.below(0), REFUSED);
        keeps(CoinSampler::new, "judged", CoinSampler::judged, 0);
    }

    @Says("An empty LEDGER.")
    static void promise1_whatIsAskedOnPaperBeforeThereIsAnything() {
        keeps(CoinSampler::new, "would", x -> x.would(0, 0), REFUSED);
        keeps(CoinSampler::new, "dearest", CoinSampler::dearest, -5);
        keeps(CoinSampler::new, "more", CoinSampler::more, -5);
        keeps(CoinSampler::new, "step", x -> x.step(1, 0), REFUSED);
        keeps(CoinSampler::new, "risky", CoinSampler::risky, -5);
        keeps(CoinSampler::new, "sizes", x -> x.sizes(0), -5);
        keeps(CoinSampler::new, "trial", x -> x.trial(1, 0), -5);
        keeps(CoinSampler::new, "covered", CoinSampler::covered, 0);
        keeps(CoinSampler::new, "caught", x -> x.caught(0), -5);
        keeps(CoinSampler::new, "worst", x -> x.worst(0), -5);
        keeps(CoinSampler::new, "chance", x -> x.chance(0), -5);
        keeps(CoinSampler::new, "were", x -> x.were(1, 1, 2), 0);
        keeps(CoinSampler::new, "both", x -> x.both(0, 0), -2);
        keeps(CoinSampler::new, "count", x -> x.count(0), 0);
    }

    // ---- promise 2

    @Says("Twenty bytes come behind those on THE TAPE,")
    static void promise2_behindThoseOnTheTape() {
        CoinSampler x = new CoinSampler();
        // "item 1 2 3;         " and "item 4 5 6;         ".
        x.feed(0x6974656d, 0x20312032, 0x20333b20, 0x20202020, 0x20202020);
        x.feed(0x6974656d, 0x20342035, 0x20363b20, 0x20202020, 0x20202020);
        due("text", x.text(40), 2);
        due("the first", x.find(1, 2), 0);
        due("the second", x.find(4, 5), 1);
    }

    @Says("the highest of each int first:")
    static void promise2_theHighestByteOfEachIntFirst() {
        CoinSampler x = new CoinSampler();
        // "item 12 345 -678;   ".
        x.feed(0x6974656d, 0x20313220, 0x33343520, 0x2d363738, 0x3b202020);
        due("text", x.text(17), 1);
        due("account", x.item(0, 0), 12);
        due("voucher", x.item(0, 1), 345);
        due("book", x.item(0, 2), -678);
        // An int below 0 begins with a byte above 127.
        x.feed(0xff202020, 0, 0, 0, 0);
        due("text", x.text(20), -31);
        due("at its first byte", x.fault(1), 0);
        x.feed(0x202020ff, 0, 0, 0, 0);
        due("text", x.text(20), -31);
        due("at its last byte", x.fault(1), 3);
    }

    @Says("how many it has.")
    static void promise2_howManyItHas() {
        CoinSampler x = new CoinSampler();
        for (int i = 1; i <= 45; i++) {
            due("feed " + i, x.feed(0, 0, 0, 0, 0), 20 * i);
        }
        x.text(0);
        due("anew", x.feed(0, 0, 0, 0, 0), 20);
    }

    @Says("-4: it would have more than 900.")
    static void promise2_minus4_itWouldHaveMoreThan900() {
        CoinSampler x = new CoinSampler();
        String line = "item 1 2 3;";
        Checks.feed(x, line + " ".repeat(900 - 2 * line.length()) + "item 4 5 6;");
        due("900 just", x.count(7), 900);
        due("more", x.feed(0x20202020, 0x20202020, 0x20202020, 0x20202020, 0x20202020), -4);
        due("again", x.feed(-1, -1, -1, -1, -1), -4);
        due("none of it came", x.count(7), 900);
        due("what was there is there", x.text(900), 2);
        due("the last line", x.find(4, 5), 1);
    }

    // ---- promise 3

    @Says("The first n bytes of THE TAPE")
    static void promise3_theFirstNBytes() {
        String line = "item 1 2 3;";
        CoinSampler x = new CoinSampler();
        Checks.feed(x, line + "item 4 5 6;");
        due("those of one line", x.text(11), 1);
        Checks.feed(x, line + "item 4 5 6;");
        due("those of two", x.text(22), 2);
        Checks.feed(x, line + "x");
        due("one too many", x.text(12), -31);
        Checks.feed(x, line);
        due("one too few", x.text(10), -31);
        Checks.feed(x, line);
        due("none", x.text(0), 0);
        String full = line + " ".repeat(900 - 2 * line.length()) + "item 4 5 6;";
        Checks.feed(x, full);
        due("all 900", x.text(900), 2);
    }

    @Says("(which is empty then)")
    static void promise3_theTapeIsEmptyThen() {
        CoinSampler x = new CoinSampler();
        Checks.feed(x, "item 1 2 3;item 4 5 6;");
        x.text(11);
        due("bytes", x.count(7), 0);
        due("what was behind the first n is gone", x.text(11), -3);
        Checks.feed(x, "item 1 2 3;");
        x.text(0);
        due("of no byte", x.count(7), 0);
        Checks.feed(x, "x");
        x.text(1);
        due("of a fault", x.count(7), 0);
    }

    @Says("are THE LEDGER")
    static void promise3_areTheLedger() {
        CoinSampler x = Checks.audited(0);
        due("text", Checks.tell(x, "item 8 80 5;item 9 90 6;audit 9 90 7;"), 2);
        due("the first", x.item(0, 0), 8);
        due("not audited as the one there was", x.item(0, 3), NONE);
        due("the second", x.item(1, 3), 7);
        due("no third", x.item(2, 0), REFUSED);
        due("those there were are gone", x.find(1, 10), NONE);
        due("audited", x.count(8), 1);
        due("coins", x.count(1), 11);
        due("M", x.count(2), 11);
    }

    @Says("are THE LEDGER")
    static void promise3_theEmptyText() {
        CoinSampler x = Checks.audited(3);
        due("of no byte", x.text(0), 0);
        due("items", x.count(0), 0);
        due("coins", x.count(1), 0);
        due("M", x.count(2), 0);
        due("interval", x.count(3), 0);
        due("runs", x.count(4), 0);
        due("hits", x.count(5), 0);
        CoinSampler y = Checks.audited(3);
        due("of blanks", Checks.tell(y, "     "), 0);
        due("items", y.count(0), 0);
    }

    @Says("The first n bytes of THE TAPE")
    static void promise3_theFullText() {
        StringBuilder text = new StringBuilder();
        for (int i = 0; i < 48; i++) {
            text.append("item1 ").append(i).append(" 1;");
        }
        for (int i = 0; i < 40; i++) {
            text.append(i < 2 || i >= 10 ? "audit1 " + i + " 2;" : "");
        }
        due("bytes", text.length(), 900);
        CoinSampler x = new CoinSampler();
        due("text", Checks.tell(x, text.toString()), 48);
        due("coins", x.count(1), 48);
        due("audited", x.count(8), 32);
        due("the last one", x.item(39, 3), 2);
        Checks.feed(x, text.toString());
        due("all but the last byte", x.text(899), -31);
        due("its place", x.fault(1), 899);
        Checks.feed(x, text.toString().replace("audit1 39 2;", "audit1 39 3;"));
        due("too much in the last line", x.text(900), -33);
        due("its place", x.fault(1), 888);
        due("items", x.count(0), 48);
    }

    @Says({"(INTERVAL is 0,", "there are no RUNS,"})
    static void promise3_intervalIs0_noRuns() {
        CoinSampler x = Checks.sampled(3);
        Checks.tell(x, "item 1 1 600;item 1 2 5;");
        due("interval", x.count(3), 0);
        due("none is certain", x.item(0, 6), 0);
        due("M", x.count(2), 605);
        due("runs", x.count(4), 0);
        due("hits", x.count(5), 0);
        due("start", x.start(0), -2);
        due("judged", x.judged(), 0);
        due("a run isn't drawn any more", x.add(1, 3, 1), 2);
    }

    @Says("s is SEED then;")
    static void promise3_sIsSeedThen() {
        CoinSampler x = Checks.sampled(2);
        due("it has gone on", x.count(9), 145_077);
        Checks.tell(x, "item 1 1 1;");
        due("s", x.count(9), 7);
        x.terms(4, 99);
        x.interval(5);
        x.draw();
        x.text(0);
        due("s of another seed", x.count(9), 99);
        x.terms(4, 1_000_003);
        x.interval(5);
        x.draw();
        x.text(0);
        due("s of the greatest seed", x.count(9), 1_000_003);
    }

    @Says("TERMS stay):")
    static void promise3_termsStay() {
        CoinSampler x = new CoinSampler();
        int[] told = {11, 12, 3, 1, 15};
        for (int what = 0; what < 5; what++) {
            x.terms(what, told[what]);
        }
        Checks.tell(x, "item 1 1 1;");
        for (int what = 0; what < 5; what++) {
            due("term " + what, x.count(10 + what), told[what]);
        }
    }

    @Says("how many ITEMS.")
    static void promise3_howManyItems() {
        CoinSampler x = new CoinSampler();
        due("one", Checks.tell(x, "item 1 1 1;"), 1);
        due("audits aren't items", Checks.tell(x, "item 1 1 1;audit 1 1 1;item 1 2 0;"), 2);
        due("48", Checks.tell(x, Sentences.items(48)), 48);
        due("none", x.text(0), 0);
    }

    @Says("-3: n is below 0, above what there is (THE TAPE stays);")
    static void promise3_minus3_nIsBelow0OrAboveWhatThereIs() {
        CoinSampler x = new CoinSampler();
        due("1 of nothing", x.text(1), -3);
        Checks.feed(x, "item 1 2 3;item 4 5;");
        due("below 0", x.text(-1), -3);
        due("far below", x.text(Integer.MIN_VALUE), -3);
        due("above", x.text(21), -3);
        due("far above", x.text(Integer.MAX_VALUE), -3);
        due("the tape stays", x.count(7), 20);
        due("all there is", x.text(20), -31);
        keeps(() -> Checks.audited(3), "below 0", y -> y.text(-1), -3);
        keeps(() -> Checks.audited(3), "above", y -> y.text(1), -3);
    }

    @Says("a FAULT.")
    static void promise3_aFault_nothingElseChanges() {
        CoinSampler x = Checks.audited(3);
        List<Integer> before = Sentences.stateOf(x);
        due("text", Checks.tell(x, "item 1 1 1;item 100 1 1;"), -32);
        List<Integer> after = Sentences.stateOf(x);
        before.set(15, 2);
        before.set(16, 16);
        Sentences.same("what is there", after, before);
        due("what is told next begins anew", Checks.tell(x, "item 1 1 1;"), 1);
    }

    // ---- promise 4

    @Says("Of the latest text() that emptied THE TAPE")
    static void promise4_ofTheLatestThatEmptiedTheTape() {
        CoinSampler x = new CoinSampler();
        due("before any", x.fault(0), 0);
        due("before any", x.fault(1), NONE);
        Checks.tell(x, "item 1 1 1; nothing");
        Checks.feed(x, "item 1 1 1;");
        due("-3", x.text(-1), -3);
        due("-3", x.text(21), -3);
        due("of the one ahead", x.fault(0), 1);
        due("of the one ahead", x.fault(1), 12);
        due("a text", x.text(11), 1);
        due("of that", x.fault(0), 0);
        due("of that", x.fault(1), NONE);
        Checks.tell(x, "item 100 1 1;");
        due("of the latest", x.fault(0), 2);
        Checks.tell(x, "audit 1 1 1;");
        due("of the latest", x.fault(0), 3);
        due("of the latest", x.fault(1), 0);
        x.add(1, 1, 1);
        x.terms(0, 5);
        due("other calls don't count", x.fault(0), 3);
    }

    @Says("(be it of no byte),")
    static void promise4_beItOfNoByte() {
        CoinSampler x = new CoinSampler();
        Checks.tell(x, "x");
        due("fault", x.fault(0), 1);
        due("of no byte", x.text(0), 0);
        due("its fault", x.fault(0), 0);
        due("its place", x.fault(1), NONE);
    }

    @Says({"what 0: its FAULT (0),", "1: its place (NONE)."})
    static void promise4_itsFault_itsPlace() {
        String[] texts = {"item 1 1 1;", " item 1 1 x;", "item 1 1 123456;", "item 1 1 1;item 1 1 1;"};
        int[] places = {NONE, 10, 9, 11};
        for (int fault = 0; fault < texts.length; fault++) {
            CoinSampler x = new CoinSampler();
            Checks.tell(x, texts[fault]);
            due("fault(0) of " + texts[fault], x.fault(0), fault);
            due("fault(1) of " + texts[fault], x.fault(1), places[fault]);
        }
    }

    @Says("NONE for others.")
    static void promise4_noneForOthers() {
        CoinSampler x = new CoinSampler();
        Checks.tell(x, "  x");
        for (int what : new int[] {-1, 2, 3, Integer.MIN_VALUE, Integer.MAX_VALUE}) {
            due("fault(" + what + ")", x.fault(what), NONE);
        }
    }

    // ---- promise 5

    @Says("A TERM: what it was.")
    static void promise5_whatItWas() {
        CoinSampler x = new CoinSampler();
        int[] first = {50_000, 50, 0, 0, 7};
        for (int what = 0; what < 5; what++) {
            due("at first", x.terms(what, 1), first[what]);
            due("told", x.terms(what, 1), 1);
            due("kept", x.count(10 + what), 1);
        }
    }

    @Says("-2;")
    static void promise5_minus2_noSuchTerm() {
        for (int what : new int[] {-1, 5, Integer.MIN_VALUE, Integer.MAX_VALUE}) {
            keeps(() -> Checks.audited(3), "terms(" + what + ", 1)", x -> x.terms(what, 1), -2);
        }
    }

    @Says("-3.")
    static void promise5_minus3_beyondLeastAndGreatest() {
        int[][] beyond = {{0, 0}, {0, 10_000_000}, {1, 0}, {1, 501}, {2, -1}, {2, 10}, {3, -1}, {3, 2}, {4, -1},
            {4, 1_000_004}};
        for (int[] term : beyond) {
            keeps(() -> Checks.audited(3), "terms(" + term[0] + ", " + term[1] + ")",
                x -> x.terms(term[0], term[1]), -3);
        }
    }

    // ---- promise 6

    @Says("An ITEM more, as the last one: its number.")
    static void promise6_asTheLastOne_itsNumber() {
        CoinSampler x = Checks.ledger();
        x.interval(600);
        due("add", x.add(50, 60, 70), 7);
        due("account", x.item(7, 0), 50);
        due("voucher", x.item(7, 1), 60);
        due("book", x.item(7, 2), 70);
        due("not audited", x.item(7, 3), NONE);
        due("its coins are the last ones", x.item(7, 8), 891);
        due("M", x.count(2), 960);
        due("a certain one", x.add(50, 61, 600), 8);
        due("certain", x.certain(NONE), 3);
        due("interval stays", x.count(3), 600);
    }

    @Says("-3;")
    static void promise6_minus3_aNumberBeyondItsBounds() {
        int[][] beyond = {{-1, 1, 1}, {100, 1, 1}, {1, -1, 1}, {1, 10_000, 1}, {1, 1, -100_000}, {1, 1, 100_000}};
        for (int[] item : beyond) {
            keeps(Checks::ledger, "add(" + item[0] + ", " + item[1] + ", " + item[2] + ")",
                x -> x.add(item[0], item[1], item[2]), -3);
        }
    }

    @Says("-4: 48 are there;")
    static void promise6_minus4_48AreThere() {
        keeps(Sentences::full, "a 49th", x -> x.add(2, 1, 1), -4);
        CoinSampler x = new CoinSampler();
        Checks.tell(x, Sentences.items(47));
        due("a 48th", x.add(2, 1, 1), 47);
        due("a 49th", x.add(2, 2, 1), -4);
        x.text(0);
        due("none is there", x.add(2, 2, 1), 0);
    }

    @Says("-5: it is there already,")
    static void promise6_minus5_itIsThereAlready() {
        keeps(Checks::ledger, "the first", x -> x.add(1, 10, 5), -5);
        keeps(Checks::ledger, "the last", x -> x.add(2, 16, 90), -5);
    }

    @Says("a RUN was DRAWN.")
    static void promise6_minus5_aRunWasDrawn() {
        keeps(() -> Checks.sampled(1), "add", x -> x.add(9, 9, 9), -5);
        CoinSampler x = Checks.sampled(1);
        x.clear();
        due("cleared", x.add(9, 9, 9), 7);
    }

    // ---- promise 7

    @Says("BOOK of an ITEM becomes v")
    static void promise7_bookBecomesV() {
        CoinSampler x = Checks.ledger();
        x.interval(600);
        x.post(1, 99_999);
        due("the greatest", x.item(1, 2), 99_999);
        due("certain now", x.item(1, 6), 1);
        due("M", x.count(2), 590);
        due("the next begins ahead", x.item(2, 8), 1);
        x.post(1, -99_999);
        due("the least", x.item(1, 2), -99_999);
        due("no coins", x.item(1, 8), 0);
        x.post(1, 0);
        due("nothing", x.count(1), 2_290);
        x.post(1, 1);
        due("one coin", x.item(2, 8), 2);
    }

    @Says("(it isn't AUDITED any more):")
    static void promise7_itIsntAuditedAnyMore() {
        CoinSampler x = Checks.audited(0);
        x.post(1, 299);
        due("audited", x.item(1, 3), NONE);
        x.post(0, 1_000);
        due("the same book told again", x.item(0, 3), NONE);
        due("the others stay", x.count(8), 2);
    }

    @Says("what it was.")
    static void promise7_whatItWas() {
        CoinSampler x = Checks.ledger();
        due("post", x.post(3, 0), -200);
        due("post", x.post(3, 99_999), 0);
        due("post", x.post(3, -99_999), 99_999);
        due("post", x.post(3, 5), -99_999);
    }

    @Says("Refused: -10,000,000: the ITEM,")
    static void promise7_refused_theItem() {
        for (int item : new int[] {-1, 7, 48, Integer.MIN_VALUE, Integer.MAX_VALUE}) {
            keeps(Checks::ledger, "post(" + item + ", 1)", x -> x.post(item, 1), REFUSED);
        }
    }

    @Says("v,")
    static void promise7_refused_v() {
        for (int v : new int[] {-100_000, 100_000, Integer.MIN_VALUE, Integer.MAX_VALUE}) {
            keeps(() -> Checks.audited(0), "post(1, " + v + ")", x -> x.post(1, v), REFUSED);
        }
    }

    @Says("a RUN was DRAWN.")
    static void promise7_refused_aRunWasDrawn() {
        keeps(() -> Checks.audited(1), "post", x -> x.post(1, 5), REFUSED);
        CoinSampler x = Checks.audited(1);
        x.clear();
        due("cleared", x.post(1, 5), 300);
    }

    // ---- promise 8

    @Says("AUDITED: what it was before (NONE).")
    static void promise8_whatItWasBefore() {
        CoinSampler x = Checks.ledger();
        due("none", x.audit(1, 0), NONE);
        due("told again", x.audit(1, 600), 0);
        due("told again", x.audit(1, 600), 600);
        due("audited", x.item(1, 3), 600);
        due("one alone", x.count(8), 1);
    }

    @Says("-2: the ITEM;")
    static void promise8_minus2_theItem() {
        for (int item : new int[] {-1, 7, 48, Integer.MIN_VALUE, Integer.MAX_VALUE}) {
            keeps(Checks::ledger, "audit(" + item + ", 0)", x -> x.audit(item, 0), -2);
        }
    }

    @Says("-3: v isn't 0 to twice BOOK;")
    static void promise8_minus3_vIsnt0ToTwiceBook() {
        for (int v : new int[] {-1, 601, Integer.MIN_VALUE, Integer.MAX_VALUE}) {
            keeps(() -> Checks.audited(1), "audit(1, " + v + ")", x -> x.audit(1, v), -3);
        }
        keeps(Checks::ledger, "a book below 0", x -> x.audit(3, 0), -3);
        keeps(Checks::ledger, "a book below 0", x -> x.audit(3, -1), -3);
        keeps(Checks::ledger, "a book of 0", x -> x.audit(4, 1), -3);
    }

    @Says("-5: it has no COINS.")
    static void promise8_minus5_itHasNoCoins() {
        keeps(Checks::ledger, "a book of 0", x -> x.audit(4, 0), -5);
        CoinSampler x = Checks.ledger();
        x.post(4, 1);
        due("one coin", x.audit(4, 0), NONE);
    }

    // ---- promise 9

    @Says({"An ITEM isn't AUDITED any more:", "what AUDITED was (NONE)."})
    static void promise9_whatAuditedWas() {
        CoinSampler x = Checks.audited(1);
        due("forget", x.forget(1), 240);
        due("audited", x.item(1, 3), NONE);
        due("how many", x.count(8), 3);
        due("told twice", x.forget(1), NONE);
        due("as nothing", x.audit(1, 0), NONE);
        due("forget that", x.forget(1), 0);
        due("without coins", x.forget(4), NONE);
        due("more than its book", x.forget(6), 99);
    }

    @Says("-2.")
    static void promise9_minus2_noSuchItem() {
        for (int item : new int[] {-1, 7, 48, Integer.MIN_VALUE, Integer.MAX_VALUE}) {
            keeps(() -> Checks.audited(1), "forget(" + item + ")", x -> x.forget(item), -2);
        }
    }

    // ---- promise 10

    @Says("INTERVAL is told (1 to 99,999):")
    static void promise10_interval_1To99999() {
        CoinSampler x = Checks.ledger();
        due("the least", x.interval(1), 5);
        due("told", x.count(3), 1);
        due("the greatest", x.interval(99_999), 0);
        due("told anew", x.count(3), 99_999);
        due("M", x.count(2), 2_590);
    }

    @Says("how many are CERTAIN.")
    static void promise10_howManyAreCertain() {
        int[] intervals = {1_001, 1_000, 700, 701, 500, 501, 300, 90, 91};
        int[] certain = {0, 1, 2, 1, 3, 2, 4, 5, 4};
        CoinSampler x = Checks.ledger();
        for (int i = 0; i < intervals.length; i++) {
            due("interval(" + intervals[i] + ")", x.interval(intervals[i]), certain[i]);
        }
        due("without items", new CoinSampler().interval(1), 0);
    }

    @Says("-3;")
    static void promise10_minus3_beyondItsBounds() {
        for (int v : new int[] {0, -1, 100_000, Integer.MIN_VALUE, Integer.MAX_VALUE}) {
            keeps(() -> Checks.sampled(0), "interval(" + v + ")", x -> x.interval(v), -3);
        }
    }

    @Says("-5: a RUN was DRAWN.")
    static void promise10_minus5_aRunWasDrawn() {
        keeps(() -> Checks.sampled(1), "interval", x -> x.interval(600), -5);
        CoinSampler x = Checks.sampled(1);
        x.clear();
        due("cleared", x.interval(500), 3);
    }

    // ---- promise 11

    /** The ledger by a TOLERABLE. */
    private static CoinSampler tolerable(int tolerable) {
        CoinSampler x = Checks.ledger();
        x.terms(0, tolerable);
        return x;
    }

    @Says({"INTERVAL becomes all COINS by SIZE", "cut,"})
    static void promise11_allCoinsBySize_cut() {
        CoinSampler x = tolerable(2_010);
        due("size", x.plan(), 2);
        due("2,590 by 2", x.count(3), 1_295);
        due("certain ones are counted anew", x.count(2), 2_590);
        CoinSampler y = tolerable(2_009);
        y.interval(5);
        due("size", y.plan(), 3);
        due("2,590 by 3, the certain ones too", y.count(3), 863);
        due("certain", y.certain(NONE), 1);
    }

    @Says("(of TOLERABLE),")
    static void promise11_ofTolerable() {
        CoinSampler x = tolerable(2_239);
        x.terms(2, 1);
        due("by EXPECT 1", x.plan(), 3);
        x.terms(2, 0);
        due("by EXPECT 0", x.plan(), 2);
        x.terms(1, 500);
        due("by another risk", x.plan(), 1);
    }

    @Says("1 at least")
    static void promise11_1AtLeast() {
        CoinSampler x = Sentences.single(3, 5, 7);
        x.terms(0, 1);
        due("as many as coins", x.plan(), 3);
        due("interval", x.count(3), 1);
        x.add(1, 2, 1);
        due("more than coins", x.plan(), 5);
        due("1 at least", x.count(3), 1);
        CoinSampler y = Sentences.single(1, 5, 7);
        y.terms(0, 1);
        due("one coin", y.plan(), 1);
        due("interval", y.count(3), 1);
    }

    @Says("(it may be above 99,999):")
    static void promise11_itMayBeAbove99999() {
        CoinSampler x = new CoinSampler();
        for (int i = 0; i < 48; i++) {
            x.add(1, i, 99_999);
        }
        x.terms(0, 9_999_999);
        due("size", x.plan(), 1);
        due("interval", x.count(3), 4_799_952);
        due("none is certain", x.certain(NONE), 0);
        due("a run of it", x.draw(), 20_067);
        due("one hit", x.count(5), 1);
        x.clear();
        due("told again", x.interval(99_999), 48);
    }

    @Says("SIZE.")
    static void promise11_answersSize() {
        due("the least", tolerable(2_460).plan(), 1);
        due("one more", tolerable(2_459).plan(), 2);
        CoinSampler all = tolerable(2_590);
        all.terms(2, 9);
        due("all coins are tolerable", all.plan(), 1);
        CoinSampler x = Sentences.single(99_999, 5, 7);
        x.terms(0, 746);
        due("the greatest", x.plan(), 400);
        due("interval", x.count(3), 249);
    }

    @Says("-4: there is none up to 400;")
    static void promise11_minus4_noneUpTo400() {
        keeps(() -> tolerable(1), "plan", CoinSampler::plan, -4);
        keeps(() -> tolerable(18), "plan", CoinSampler::plan, -4);
        due("just one", tolerable(19).plan(), 387);
        CoinSampler x = Sentences.single(99_999, 5, 7);
        x.terms(0, 745);
        due("401 would do", x.plan(), -4);
        due("interval stays", x.count(3), 5);
    }

    @Says("-5: there are no COINS,")
    static void promise11_minus5_noCoins() {
        keeps(CoinSampler::new, "no item", CoinSampler::plan, -5);
        CoinSampler x = new CoinSampler();
        x.add(1, 1, 0);
        x.add(1, 2, -5);
        due("no coin", x.plan(), -5);
        x.post(0, 1);
        due("one coin", x.plan(), 1);
    }

    @Says("a RUN was DRAWN.")
    static void promise11_minus5_aRunWasDrawn() {
        keeps(() -> Checks.sampled(1), "plan", CoinSampler::plan, -5);
        CoinSampler x = Checks.sampled(1);
        x.clear();
        due("cleared", x.plan(), 1);
    }

    // ---- promise 12

    @Says("A RUN more is DRAWN: its START.")
    static void promise12_itsStart() {
        CoinSampler x = Checks.sampled(0);
        int[] starts = {267, 478, 597, 429, 157};
        for (int r = 0; r < starts.length; r++) {
            due("draw", x.draw(), starts[r]);
            due("runs", x.count(4), r + 1);
            due("start", x.start(r), starts[r]);
        }
        due("s", x.count(9), 812_556);
        due("those drawn stay", x.start(0), 267);
    }

    @Says("-5: there is no INTERVAL;")
    static void promise12_minus5_noInterval() {
        keeps(Checks::ledger, "draw", CoinSampler::draw, -5);
        keeps(CoinSampler::new, "draw", CoinSampler::draw, -5);
        CoinSampler x = new CoinSampler();
        x.interval(600);
        due("an interval, but no coins", x.draw(), 267);
    }

    @Says("-4: there are 5,")
    static void promise12_minus4_thereAre5() {
        keeps(() -> Checks.sampled(5), "draw", CoinSampler::draw, -4);
        CoinSampler x = Checks.sampled(4);
        due("a fifth", x.draw(), 157);
        due("a sixth", x.draw(), -4);
        x.clear();
        due("cleared", x.draw(), 326);
    }

    @Says("or as many as INTERVAL.")
    static void promise12_minus4_asManyAsInterval() {
        for (int interval = 1; interval <= 4; interval++) {
            int told = interval;
            keeps(() -> drawnOut(told), "draw of " + interval, CoinSampler::draw, -4);
        }
    }

    /** All runs that there may be of a small interval. */
    private static CoinSampler drawnOut(int interval) {
        CoinSampler x = Sentences.single(1, interval, 7);
        for (int r = 0; r < interval; r++) {
            due("draw", x.draw() > 0 ? 1 : 0, 1);
        }
        return x;
    }

    // ---- promise 13

    @Says("There are no RUNS")
    static void promise13_noRuns() {
        CoinSampler x = Checks.audited(3);
        x.clear();
        due("runs", x.count(4), 0);
        due("hits", x.count(5), 0);
        due("items hit", x.count(6), 0);
        due("start", x.start(0), -2);
        due("hit", x.hit(0, 0), -2);
        due("times hit", x.item(1, 7), 0);
        due("coin hit", x.coin(267, 2), 0);
        due("judged", x.judged(), 0);
        due("those looked at are the certain ones", x.drawn(NONE), 2);
    }

    @Says("(INTERVAL, AUDITED, s stay):")
    static void promise13_intervalAuditedSStay() {
        CoinSampler x = Checks.audited(3);
        x.clear();
        due("interval", x.count(3), 600);
        due("M", x.count(2), 890);
        due("audited", x.count(8), 4);
        due("audited of one", x.item(1, 3), 240);
        due("s", x.count(9), 31_796);
        due("it goes on from there", x.draw(), 429);
    }

    @Says("how many there were.")
    static void promise13_howManyThereWere() {
        for (int runs = 0; runs <= 5; runs++) {
            CoinSampler x = Checks.sampled(runs);
            due("clear", x.clear(), runs);
            due("told twice", x.clear(), 0);
        }
        due("a new object", new CoinSampler().clear(), 0);
    }
}
