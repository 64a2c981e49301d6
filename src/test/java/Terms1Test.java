/** Section 1 of the document's terms, sentence by sentence: items, the text and its faults, the terms. */
public final class Terms1Test {
    private static final int NONE = Sentences.NONE;

    public static void main(String[] args) {
        Sentences.run(Terms1Test.class);
    }

    private static void due(String call, long got, long due) {
        Sentences.due(call, got, due);
    }

    private static void faulty(String text, int fault, int place) {
        Sentences.faulty(text, fault, place);
    }

    private static void fine(String text, int items) {
        Sentences.fine(text, items);
    }

    // ---- items

    @Says("THE LEDGER: ITEMS, 48 at most,")
    static void terms1_items_48AtMost() {
        CoinSampler x = new CoinSampler();
        for (int i = 0; i < 48; i++) {
            due("add", x.add(1, i, 9), i);
        }
        due("a 49th", x.add(1, 48, 9), -4);
        due("items", x.count(0), 48);
        due("48 told by a text", Checks.tell(x, Sentences.items(48)), 48);
        due("49 told by a text", Checks.tell(x, Sentences.items(49)), -33);
    }

    /** 48 items of 99,998 coins, an interval of 99,999: a start up to 99,951 hits them all. */
    private static CoinSampler hitByEachStart(int runs) {
        CoinSampler x = new CoinSampler();
        for (int i = 0; i < 48; i++) {
            x.add(i, i, 99_998);
        }
        x.interval(99_999);
        for (int r = 0; r < runs; r++) {
            x.draw();
        }
        return x;
    }

    @Says("THE LEDGER: ITEMS, 48 at most,")
    static void terms1_items_48OfThem_allHit() {
        CoinSampler x = hitByEachStart(5);
        due("how many are lacking", x.lacking(-1), 48);
        due("lacking by the first run", x.step(1, 3), 48);
        due("the last one that is", x.lacking(47), 47);
        due("a start's hits", x.trial(99_951, 0), 48);
        due("hits of the next start", x.trial(99_952, 0), 47);
        due("items not audited", x.trial(1, 1), 48);
        for (int i = 0; i < 48; i++) {
            x.audit(i, 0);
        }
        due("items that are hit", x.count(6), 48);
        due("items that were audited", x.count(8), 48);
        due("starts that catch all", x.caught(48), 99_951);
        due("starts that catch all but one", x.caught(47), 48);
        due("the last two by all starts but 99,952 and 99,953", x.both(46, 47), 99_997);
        due("hits of another interval", x.were(99_999, 1, 2), 48);
        due("items of these", x.were(99_999, 1, 3), 48);
        due("covered", x.covered(), 1_000);
        due("a coin of the fifth run", x.coin(12_565, 2), 1);
        due("its last one", x.coin(12_565 + 47 * 99_999, 2), 1);
        due("accounts", x.accounts(-1), 48);
        due("the last account", x.accounts(47), 47);
        due("hits of its items", x.account(47, 2), 5);
    }

    @Says("THE LEDGER: ITEMS, 48 at most,")
    static void terms1_items_48OfThem_allCertain() {
        CoinSampler x = hitByEachStart(0);
        due("certain", x.interval(99_998), 48);
        x.draw();
        x.audit(47, 0);
        due("the dearest", x.dearest(), 47);
        for (int i = 0; i < 48; i++) {
            x.audit(i, 99_997 - i);
        }
        due("known", x.projected(2), 48 * 49 / 2);
        due("would be known", x.would(47, 99_998), 47 * 48 / 2);
        due("items that aren't audited by a start", x.trial(1, 1), 0);
        due("certain ones of another interval", x.were(1, 1, 0), 48);
        due("looked at by that", x.were(1, 1, 3), 48);
    }

    @Says("numbered as they are told from 0 on:")
    static void terms1_items_numberedAsTheyAreToldFrom0On() {
        CoinSampler x = new CoinSampler();
        Checks.tell(x, "item 7 70 1;item 3 30 2;item 9 90 3;");
        due("the first", x.find(7, 70), 0);
        due("the second", x.find(3, 30), 1);
        due("the third", x.find(9, 90), 2);
        due("one more", x.add(0, 0, 4), 3);
        due("it is the last", x.item(3, 2), 4);
    }

    @Says("ACCOUNT 0 to 99,")
    static void terms1_account_0To99() {
        CoinSampler x = new CoinSampler();
        due("the least", x.add(0, 5, 1), 0);
        due("the greatest", x.add(99, 5, 1), 1);
        due("below", x.add(-1, 5, 1), -3);
        due("above", x.add(100, 5, 1), -3);
        due("the greatest is kept", x.item(1, 0), 99);
        fine("item 0 5 1;item 99 5 1;", 2);
        faulty("item 100 5 1;", 2, 5);
    }

    @Says("VOUCHER 0 to 9,999")
    static void terms1_voucher_0To9999() {
        CoinSampler x = new CoinSampler();
        due("the least", x.add(5, 0, 1), 0);
        due("the greatest", x.add(5, 9_999, 1), 1);
        due("below", x.add(5, -1, 1), -3);
        due("above", x.add(5, 10_000, 1), -3);
        due("the greatest is kept", x.item(1, 1), 9_999);
        fine("item 5 0 1;item 5 9999 1;", 2);
        faulty("item 5 10000 1;", 2, 7);
    }

    @Says("(no two with both alike),")
    static void terms1_items_noTwoWithBothAlike() {
        CoinSampler x = new CoinSampler();
        due("one", x.add(5, 6, 1), 0);
        due("both alike", x.add(5, 6, 2), -5);
        due("the voucher alone is alike", x.add(6, 6, 1), 1);
        due("the account alone is alike", x.add(5, 5, 1), 2);
        due("the other way round", x.add(6, 5, 1), 3);
        fine("item 5 6 1;item 6 6 1;item 5 5 1;item 6 5 1;", 4);
        faulty("item 5 6 1;item 6 6 1;item 5 6 2;", 3, 22);
    }

    @Says("BOOK -99,999 to 99,999.")
    static void terms1_book_leastAndGreatest() {
        CoinSampler x = new CoinSampler();
        due("the least", x.add(1, 1, -99_999), 0);
        due("the greatest", x.add(1, 2, 99_999), 1);
        due("below", x.add(1, 3, -100_000), -3);
        due("above", x.add(1, 4, 100_000), -3);
        due("the least is kept", x.item(0, 2), -99_999);
        due("the greatest is kept", x.item(1, 2), 99_999);
        fine("item 1 1 -99999;item 1 2 99999;", 2);
        faulty("item 1 1 -100000;", 2, 10);
        faulty("item 1 1 100000;", 2, 9);
    }

    @Says("An ITEM has as many COINS as its BOOK is above 0.")
    static void terms1_coins_asManyAsTheBookIsAbove0() {
        int[] books = {-99_999, -1, 0, 1, 2, 99_999};
        int[] coins = {0, 0, 0, 1, 2, 99_999};
        for (int i = 0; i < books.length; i++) {
            CoinSampler x = new CoinSampler();
            x.add(1, 1, books[i]);
            due("coins of " + books[i], x.count(1), coins[i]);
            due("first coin of " + books[i], x.item(0, 8), coins[i] > 0 ? 1 : 0);
            due("behind the last coin of " + books[i], x.coin(coins[i] + 1, 0), -2);
        }
        CoinSampler all = new CoinSampler();
        for (int i = 0; i < books.length; i++) {
            all.add(1, i, books[i]);
        }
        due("a book below 0 takes none away", all.count(1), 100_002);
    }

    @Says("AUDITED: what an ITEM with COINS was worth when it was looked at")
    static void terms1_audited_ofAnItemWithCoins() {
        CoinSampler x = new CoinSampler();
        x.add(1, 1, 1);
        x.add(1, 2, 0);
        x.add(1, 3, -1);
        due("one coin", x.audit(0, 1), NONE);
        due("no coin", x.audit(1, 0), -5);
        due("a book below 0", x.audit(2, 0), -3);
        due("how many", x.count(8), 1);
        fine("item 1 1 1;audit 1 1 1;", 1);
        faulty("item 1 1 0;audit 1 1 0;", 3, 11);
        faulty("item 1 1 -1;audit 1 1 0;", 3, 12);
    }

    @Says("(0 to twice its BOOK),")
    static void terms1_audited_0ToTwiceItsBook() {
        int[] books = {1, 2, 600, 99_999};
        for (int book : books) {
            CoinSampler x = new CoinSampler();
            x.add(1, 1, book);
            due("the least", x.audit(0, 0), NONE);
            due("the greatest of " + book, x.audit(0, 2 * book), 0);
            due("below", x.audit(0, -1), -3);
            due("above", x.audit(0, 2 * book + 1), -3);
            due("the greatest is kept", x.item(0, 3), 2 * book);
        }
    }

    @Says("if it was.")
    static void terms1_audited_ifItWas() {
        CoinSampler x = new CoinSampler();
        x.add(1, 1, 5);
        due("it wasn't", x.item(0, 3), NONE);
        x.audit(0, 0);
        due("as nothing", x.item(0, 3), 0);
        due("how many", x.count(8), 1);
    }

    @Says("ERROR: BOOK less AUDITED.")
    static void terms1_error_bookLessAudited() {
        CoinSampler x = new CoinSampler();
        x.add(1, 1, 99_999);
        x.audit(0, 0);
        due("the greatest", x.item(0, 4), 99_999);
        x.audit(0, 199_998);
        due("the least", x.item(0, 4), -99_999);
        x.audit(0, 99_998);
        due("one too much", x.item(0, 4), 1);
        x.audit(0, 99_999);
        due("none", x.item(0, 4), 0);
    }

    @Says("TAINT: 10,000 times ERROR by BOOK, cut towards 0.")
    static void terms1_taint_cutTowards0() {
        CoinSampler x = new CoinSampler();
        x.add(1, 1, 99_999);
        int[] audited = {0, 199_998, 99_998, 100_000, 99_989, 99_988, 100_009, 100_010, 99_999};
        int[] taints = {10_000, -10_000, 0, 0, 1, 1, -1, -1, 0};
        for (int i = 0; i < audited.length; i++) {
            x.audit(0, audited[i]);
            due("taint of " + audited[i], x.item(0, 5), taints[i]);
        }
        x.add(1, 2, 3);
        x.audit(1, 2);
        due("a third", x.item(1, 5), 3_333);
        x.audit(1, 5);
        due("two thirds below 0", x.item(1, 5), -6_666);
    }

    // ---- the text

    @Says("A TEXT: LINES, each with a ; behind:")
    static void terms1_text_eachLineHasASemicolonBehind() {
        fine("item 1 1 1;", 1);
        fine("item 1 1 1;item 1 2 1;", 2);
        faulty("item 1 1 1", 1, 10);
        faulty("item 1 1 1 item 1 2 1;", 1, 11);
        faulty("item 1 1 1;item 1 2 1", 1, 21);
        faulty("item 1 1 1;;", 1, 11);
        faulty(";", 1, 0);
        faulty("item 1 1 5;audit 1 1 5", 1, 22);
    }

    @Says("A TEXT: LINES,")
    static void terms1_text_theEmptyOne() {
        fine("", 0);
        fine(" ", 0);
        fine("                    ", 0);
    }

    @Says("item N N [ - ] N (ACCOUNT, VOUCHER, BOOK)")
    static void terms1_text_itemAccountVoucherBook() {
        CoinSampler x = new CoinSampler();
        due("text", Checks.tell(x, "item 12 345 678;item 0 1 -2;item 3 4 - 0;item 5 6 0;"), 4);
        int[][] due = {{12, 345, 678}, {0, 1, -2}, {3, 4, 0}, {5, 6, 0}};
        for (int i = 0; i < 4; i++) {
            for (int what = 0; what < 3; what++) {
                due("item(" + i + ", " + what + ")", x.item(i, what), due[i][what]);
            }
        }
        faulty("item -1 1 1;", 1, 5);
        faulty("item 1 -1 1;", 1, 7);
        faulty("item 1 1 1-;", 1, 10);
        faulty("item 1 1 - - 1;", 1, 11);
    }

    @Says("| audit N N N (ACCOUNT, VOUCHER, AUDITED,")
    static void terms1_text_auditAccountVoucherAudited() {
        CoinSampler x = new CoinSampler();
        due("text", Checks.tell(x, "item 1 2 30;item 2 1 40;audit 2 1 44;audit 1 2 29;"), 2);
        due("the first", x.item(0, 3), 29);
        due("the second", x.item(1, 3), 44);
        faulty("item 1 1 5;audit 1 1 -1;", 1, 21);
        faulty("item 1 1 5;audit 1 1;", 1, 20);
        faulty("item 1 1 5;audit 1 1 1 1;", 1, 23);
    }

    @Says("0 to 99,999 here).")
    static void terms1_text_audited0To99999Here() {
        fine("item 1 1 99999;audit 1 1 0;", 1);
        fine("item 1 1 99999;audit 1 1 99999;", 1);
        faulty("item 1 1 99999;audit 1 1 100000;", 2, 25);
        CoinSampler x = new CoinSampler();
        Checks.tell(x, "item 1 1 99999;audit 1 1 99999;");
        due("by audit() up to twice its book", x.audit(0, 199_998), 99_999);
    }

    @Says("Words (a to z, as long as they go on),")
    static void terms1_words_aToZ_asLongAsTheyGoOn() {
        faulty("itema 1 1 1;", 1, 0);
        faulty("itemz 1 1 1;", 1, 0);
        faulty("items 1 1 1;", 1, 0);
        faulty("itemaudit 1 1 1;", 1, 0);
        faulty("ite 1 1 1;", 1, 0);
        faulty("audi 1 1 1;", 1, 0);
        faulty("xtem 1 1 1;", 1, 0);
        faulty("iten 1 1 1;", 1, 0);
        faulty("budit 1 1 1;", 1, 0);
        faulty("audis 1 1 1;", 1, 0);
        faulty("aitem 1 1 1;", 1, 0);
        // 96, 123 and great letters aren't of a word.
        faulty("item`1 1 1;", 1, 4);
        faulty("item{1 1 1;", 1, 4);
        faulty("itemA 1 1 1;", 1, 4);
        faulty("itemZ 1 1 1;", 1, 4);
        faulty("ITEM 1 1 1;", 1, 0);
    }

    @Says("numbers (0 to 9, likewise),")
    static void terms1_numbers_0To9_asLongAsTheyGoOn() {
        CoinSampler x = new CoinSampler();
        due("text", Checks.tell(x, "item 90 9876 54321;item 09 0009 00090;"), 2);
        due("account", x.item(0, 0), 90);
        due("voucher", x.item(0, 1), 9_876);
        due("book", x.item(0, 2), 54_321);
        due("noughts ahead", x.find(9, 9), 1);
        due("noughts ahead", x.item(1, 2), 90);
        faulty("item 1 12;", 1, 9);
        // 47 and 58 aren't of a number.
        faulty("item 1 1 1/;", 1, 10);
        faulty("item 1 1 1:;", 1, 10);
    }

    @Says("other bytes one by one;")
    static void terms1_otherBytes_oneByOne() {
        faulty("item 1 1 --1;", 1, 10);
        faulty("item 1 1 1;;;", 1, 11);
        faulty("\u0000item 1 1 1;", 1, 0);
        faulty("item 1 1 1;\u007f", 1, 11);
        faulty("item 1 1 1;\u0080", 1, 11);
        faulty("item 1 1 1;\u00ff", 1, 11);
        faulty("item 1 1 1\u00bb", 1, 10);
    }

    @Says("blanks (32) may stand between all.")
    static void terms1_blanks32_mayStandBetweenAll() {
        fine("item1 1-5;item2 1 5;audit2 1 5;", 2);
        fine("  item  1  1  -  5  ;  item  2  1  5  ;  audit  2  1  5  ;  ", 2);
        faulty("ite m 1 1 1;", 1, 0);
        faulty("item 1 1 1 0;", 1, 11);
        for (char other : new char[] {0, 9, 10, 13, 31, 33, 160}) {
            faulty("item" + other + "1 1 1;", 1, 4);
            faulty(other + "item 1 1 1;", 1, 0);
            faulty("item 1 1 1;" + other, 1, 11);
        }
    }

    @Says("FAULTS, the first along the text:")
    static void terms1_faults_theFirstAlongTheText() {
        faulty("item 100 10000 x", 2, 5);
        faulty("item x 10000 1;", 1, 5);
        faulty("item 1 1 1 2;item 100 1 1;", 1, 11);
        faulty("item 1 1 1;audit 9 9 9;item 100 1 1;", 3, 11);
        faulty("item 1 1 1;item 100 1 1;audit 9 9 9;", 2, 16);
        faulty("thing 100 1 1;", 1, 0);
    }

    @Says("1 what can't stand there (at it;")
    static void terms1_fault1_whatCantStandThere_atIt() {
        faulty("  7 1 1 1;", 1, 2);
        faulty("  thing 1 1 1;", 1, 2);
        faulty("item ; 1 1;", 1, 5);
        faulty("item 1 item 1;", 1, 7);
        faulty("item 1 1 ;", 1, 9);
        faulty("item 1 1 - ;", 1, 11);
        faulty("item 1 1 1 , ;", 1, 11);
        faulty("item 1 1 +1;", 1, 9);
        faulty("item 1 1 5; audit item 1 1;", 1, 18);
        faulty("item 1 1 5; audit 1 audit 1;", 1, 20);
        faulty("item 1 1 5; audit 1 1 - 1;", 1, 22);
        faulty("item 1 1 5; audit 1 1 1 audit", 1, 24);
    }

    @Says("1 what can't stand there (at it;")
    static void terms1_fault1_whicheverByteItIs() {
        for (int sign = 0; sign < 256; sign++) {
            boolean isLetter = sign >= 'a' && sign <= 'z';
            boolean isDigit = sign >= '0' && sign <= '9';
            String there = String.valueOf((char) sign);
            if (sign == ' ') {
                continue;
            }
            faulty(there + "item 1 2 3;", 1, 0);
            faulty("item 1 2 3;" + there, 1, 11);
            if (!isDigit) {
                faulty("item" + there + "1 2 3;", 1, isLetter ? 0 : 4);
                faulty("item 1" + there + "2 3;", 1, 6);
                faulty("item 1 2 -" + there + "3;", 1, 10);
                faulty("audit 1 2" + there + "3;", 1, 9);
            }
            if (!isDigit && sign != '-') {
                faulty("item 1 2" + there + "3;", 1, 8);
            }
            if (!isDigit && sign != ';') {
                faulty("item 1 2 3" + there + ";", 1, 10);
            }
        }
    }

    @Says("the end: how many bytes there are),")
    static void terms1_fault1_theEnd_howManyBytesThereAre() {
        String line = "item 1 1 - 1;";
        for (int length : new int[] {4, 5, 6, 7, 8, 9, 10, 11, 12}) {
            faulty(line.substring(0, length), 1, length);
        }
        faulty("audit", 1, 5);
        faulty("item 1 1 1     ", 1, 15);
        CoinSampler x = new CoinSampler();
        Checks.feed(x, "item 1 1 1;");
        due("the first 10 bytes", x.text(10), -31);
        due("what is behind them isn't there", x.fault(1), 10);
    }

    @Says("2 a number out of its bounds,")
    static void terms1_fault2_aNumberOutOfItsBounds_atIt() {
        faulty("item  100 1 1;", 2, 6);
        faulty("item 1 10000 1;", 2, 7);
        faulty("item 1 99999 1;", 2, 7);
        faulty("item 1 1 5;audit 100 1 1;", 2, 17);
        faulty("item 1 1 5;audit 1 10000 1;", 2, 19);
        fine("item 99 9999 99999;audit 99 9999 99999;", 1);
    }

    @Says("or of more than 5 digits (at it);")
    static void terms1_fault2_ofMoreThan5Digits_atIt() {
        fine("item 00001 00001 00001;audit 00001 00001 00001;", 1);
        faulty("item 000001 1 1;", 2, 5);
        faulty("item 1 000001 1;", 2, 7);
        faulty("item 1 1 000001;", 2, 9);
        faulty("item 1 1 -  000001;", 2, 12);
        faulty("item 1 1 5;audit 1 1 000001;", 2, 21);
        // 1 more than 2 to the 32nd, to the 64th.
        faulty("item 1 1 4294967297;", 2, 9);
        faulty("item 1 1 18446744073709551617;", 2, 9);
    }

    @Says("3, behind the last number of a LINE, ahead of its ;,")
    static void terms1_fault3_behindTheLastNumber_aheadOfTheSemicolon() {
        faulty("item 1 1 1;item 1 1 2", 3, 11);
        faulty("item 1 1 1;item 1 1 2 x", 3, 11);
        faulty("item 1 1 1;item 1 1 x", 1, 20);
        faulty("item 1 1 1;item 1 1 100000;", 2, 20);
        faulty("audit 1 1 1", 3, 0);
        faulty("audit 1 1 x", 1, 10);
    }

    @Says("but told at its word:")
    static void terms1_fault3_toldAtItsWord() {
        faulty("item 1 1 1;  item 1 1 2;", 3, 13);
        faulty("   audit 1 1 1;", 3, 3);
    }

    @Says("an item that is there already,")
    static void terms1_fault3_anItemThatIsThereAlready() {
        faulty("item 1 1 1;item 1 1 1;", 3, 11);
        faulty("item 1 1 1;item 2 1 1;item 01 001 9;", 3, 22);
        CoinSampler x = Checks.ledger();
        due("what the ledger has beforehand doesn't count", Checks.tell(x, "item 1 10 1;"), 1);
        due("nor what the text ahead had", Checks.tell(x, "item 1 10 1;"), 1);
    }

    @Says("a 49th one,")
    static void terms1_fault3_a49thItem() {
        fine(Sentences.items(48), 48);
        faulty(Sentences.items(49), 3, Sentences.items(48).length());
        CoinSampler x = Sentences.full();
        due("those beforehand don't count", Checks.tell(x, "item 2 1 1;"), 1);
    }

    @Says("an audit of an ITEM that isn't told ahead")
    static void terms1_fault3_anAuditOfAnItemNotToldAhead() {
        faulty("audit 1 1 1;item 1 1 1;", 3, 0);
        faulty("item 1 2 5;audit 2 1 1;", 3, 11);
        CoinSampler x = Checks.ledger();
        due("what the ledger has beforehand isn't told ahead", Checks.tell(x, "audit 1 10 1;"), -33);
    }

    @Says("or has no COINS,")
    static void terms1_fault3_anAuditOfAnItemWithoutCoins() {
        faulty("item 1 1 0;audit 1 1 0;", 3, 11);
        faulty("item 1 1 -5;audit 1 1 0;", 3, 12);
        fine("item 1 1 1;audit 1 1 0;", 1);
    }

    @Says("or of more than twice its BOOK.")
    static void terms1_fault3_anAuditOfMoreThanTwiceItsBook() {
        fine("item 1 1 5;audit 1 1 10;", 1);
        faulty("item 1 1 5;audit 1 1 11;", 3, 11);
        fine("item 1 1 49999;audit 1 1 99998;", 1);
        faulty("item 1 1 49999;audit 1 1 99999;", 3, 15);
    }

    @Says("(An audit told again: the later one counts.)")
    static void terms1_text_anAuditToldAgain_theLaterOneCounts() {
        CoinSampler x = new CoinSampler();
        due("text", Checks.tell(x, "item 1 1 9;audit 1 1 3;audit 1 1 5;audit 1 1 4;"), 1);
        due("the later one", x.item(0, 3), 4);
        due("one is audited", x.count(8), 1);
        faulty("item 1 1 9;audit 1 1 3;audit 1 1 19;", 3, 23);
    }

    // ---- the terms

    private static void term(int what, int least, int greatest, int atFirst) {
        CoinSampler x = new CoinSampler();
        due("at first", x.count(10 + what), atFirst);
        due("below", x.terms(what, least - 1), -3);
        due("far below", x.terms(what, Integer.MIN_VALUE), -3);
        due("above", x.terms(what, greatest + 1), -3);
        due("far above", x.terms(what, Integer.MAX_VALUE), -3);
        due("the least", x.terms(what, least), atFirst);
        due("the greatest", x.terms(what, greatest), least);
        due("the greatest is kept", x.count(10 + what), greatest);
    }

    @Says({"TERMS (least to greatest; at first):", "0 TOLERABLE 1 to 9,999,999 (50,000),"})
    static void terms1_tolerable_leastGreatestAtFirst() {
        term(0, 1, 9_999_999, 50_000);
    }

    @Says("1 RISK 1 to 500 thousandths (50),")
    static void terms1_risk_leastGreatestAtFirst() {
        term(1, 1, 500, 50);
        CoinSampler x = new CoinSampler();
        x.terms(1, 500);
        due("thousandths", x.upper(1, 0), 500_000);
    }

    @Says("2 EXPECT 0 to 9 (0),")
    static void terms1_expect_leastGreatestAtFirst() {
        term(2, 0, 9, 0);
    }

    @Says("3 NET 0, 1 (0),")
    static void terms1_net_leastGreatestAtFirst() {
        term(3, 0, 1, 0);
    }

    @Says("4 SEED 0 to 1,000,003 (7).")
    static void terms1_seed_leastGreatestAtFirst() {
        term(4, 0, 1_000_003, 7);
    }
}
