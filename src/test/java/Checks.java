/** What the tests of the promises share: counting wrong answers, telling a text, a ledger to work on. */
final class Checks {
    static final int NONE = -1;
    static final int REFUSED = -10_000_000;

    private static int wrong = 0;
    private static int checked = 0;
    private static String promise = "";

    private Checks() { }

    static void promise(int number) {
        promise = "promise " + number;
    }

    static void due(String call, long got, long due) {
        checked++;
        if (got != due) {
            wrong++;
            System.out.println(promise + ": " + call + " answered " + got + ", due is " + due);
        }
    }

    static void end(String test) {
        System.out.println(test + ": " + checked + " answers, " + wrong + " of them wrong");
        System.exit(wrong == 0 ? 0 : 1);
    }

    /** Feeds a text with blanks behind it, up to whole feeds. */
    static void feed(CoinSampler x, String text) {
        StringBuilder whole = new StringBuilder(text);
        while (whole.length() % 20 != 0) {
            whole.append(' ');
        }
        for (int i = 0; i < whole.length(); i += 20) {
            x.feed(four(whole, i), four(whole, i + 4), four(whole, i + 8), four(whole, i + 12), four(whole, i + 16));
        }
    }

    private static int four(CharSequence text, int i) {
        return text.charAt(i) << 24 | text.charAt(i + 1) << 16 | text.charAt(i + 2) << 8 | text.charAt(i + 3);
    }

    static int tell(CoinSampler x, String text) {
        feed(x, text);
        return x.text(text.length());
    }

    /**
     * Coins: item 0 1,000, item 1 300, item 2 500, item 5 700, item 6 90; 2,590 in all. By an interval of 600 items
     * 0 and 5 are certain; of the rest item 1 has coins 1 to 300, item 2 301 to 800, item 6 801 to 890.
     */
    static CoinSampler ledger() {
        CoinSampler x = new CoinSampler();
        x.add(1, 10, 1_000);
        x.add(1, 11, 300);
        x.add(2, 12, 500);
        x.add(2, 13, -200);
        x.add(3, 14, 0);
        x.add(4, 15, 700);
        x.add(2, 16, 90);
        return x;
    }

    /** The ledger with an interval of 600 and so many runs: starts 267 (hits items 1, 6), 478 and 597 (item 2). */
    static CoinSampler sampled(int runs) {
        CoinSampler x = ledger();
        x.interval(600);
        for (int r = 0; r < runs; r++) {
            x.draw();
        }
        return x;
    }

    /** The same with errors: item 0 100, item 1 60 (taint 2,000), item 5 -50, item 6 -9 (taint -1,000). */
    static CoinSampler audited(int runs) {
        CoinSampler x = sampled(runs);
        x.audit(0, 900);
        x.audit(1, 240);
        x.audit(5, 750);
        x.audit(6, 99);
        return x;
    }
}
