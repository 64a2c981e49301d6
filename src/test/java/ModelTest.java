import java.lang.reflect.Method;
import java.util.ArrayList;
import java.util.Arrays;
import java.util.List;
import java.util.Random;

/** Compares the program with PlainSampler along runs of calls that are always the same ones. */
public final class ModelTest {
    private static final List<String> WRITERS = List.of("feed", "text", "terms", "add", "post", "audit", "forget",
        "interval", "plan", "draw", "clear");

    // Of which argument how many values stand for something, from 0 on.
    private static final String WHATS = "fault0=2 item1=9 coin1=3 hit1=4 account1=6 projected0=5 taint1=3 bound0=5"
        + " below0=4 step1=4 trial1=4 worst0=2 chance0=2 were2=4 count0=15";

    // Nothing is promised of an object behind that.
    private static final int MOST_CALLS = 512;

    private final Random random;
    private final CoinSampler program = new CoinSampler();
    private final PlainSampler model = new PlainSampler();
    private final StringBuilder told = new StringBuilder();
    private final int greatestBook;
    private int calls;
    private boolean wrong;

    private ModelTest(int seed) {
        random = new Random(seed);
        greatestBook = new int[] {3, 12, 60, 400, 3_000, 99_999}[seed % 15 == 14 ? 5 : seed % 5];
    }

    public static void main(String[] args) {
        int runs = args.length > 0 ? Integer.parseInt(args[0]) : 150;
        int wrongRuns = 0;
        for (int seed = 0; seed < runs; seed++) {
            ModelTest test = new ModelTest(seed);
            test.run();
            if (test.wrong) {
                wrongRuns++;
                System.out.println("run " + seed + ": " + test.told);
            }
        }
        System.out.println("ModelTest: " + runs + " runs, " + wrongRuns + " of them wrong");
        System.exit(wrongRuns == 0 ? 0 : 1);
    }

    private void run() {
        setTerms();
        if (random.nextBoolean()) {
            tellText(random.nextInt(4) == 0);
        }
        fillUp();
        boolean isLarge = greatestBook > 3_000;
        int rounds = isLarge ? 2 : 6;
        for (int round = 0; round < rounds && !wrong; round++) {
            change();
            for (int i = 0; i < (isLarge ? 20 : 60) && !wrong && calls < 480; i++) {
                ask(randomReader());
            }
        }
    }

    private void setTerms() {
        call("terms", 0, 1 + random.nextInt(random.nextInt(4) == 0 ? 60_000 : 20 * greatestBook));
        call("terms", 1, random.nextBoolean() ? 50 : 1 + random.nextInt(500));
        call("terms", 2, random.nextInt(3));
        call("terms", 3, random.nextInt(2));
        call("terms", 4, random.nextInt(1_000_004));
    }

    private void fillUp() {
        int wanted = random.nextInt(49);
        for (int i = 0; i < wanted; i++) {
            call("add", random.nextInt(6), random.nextInt(60), book());
        }
    }

    private int book() {
        int book = random.nextInt(greatestBook + 1);
        return random.nextInt(8) == 0 ? -book : book;
    }

    private void change() {
        switch (random.nextInt(10)) {
            case 0 -> tellText(true);
            case 1 -> tellText(false);
            case 2, 3 -> {
                call("clear");
                call("post", random.nextInt(48), book());
                call("plan");
            }
            default -> { }
        }
        if (random.nextInt(3) > 0) {
            call("clear");
            int greatest = random.nextInt(3) == 0 ? 4 * greatestBook : greatestBook + 2;
            call("interval", 1 + random.nextInt(greatest) % 99_999);
        }
        int draws = random.nextInt(7);
        for (int i = 0; i < draws; i++) {
            call("draw");
        }
        auditSome();
        moveTerms();
    }

    // Tolerable amounts near the bound are those by which the answers differ.
    private void moveTerms() {
        if (random.nextInt(3) > 0) {
            int near = model.bound(3) + random.nextInt(9) - random.nextInt(1 + greatestBook / (1 + random.nextInt(20)));
            call("terms", 0, Math.max(1, near));
        }
        if (random.nextInt(3) == 0) {
            call("terms", 1 + random.nextInt(4), random.nextInt(3));
        }
    }

    private void auditSome() {
        int audits = random.nextInt(30);
        for (int i = 0; i < audits; i++) {
            int item = random.nextInt(49) - 1;
            int book = Math.max(0, model.item(item, 2));
            int worth = switch (random.nextInt(4)) {
                case 0 -> book;
                case 1 -> random.nextInt(2 * book + 2);
                case 2 -> book / 2;
                default -> random.nextInt(book + 1);
            };
            call("audit", item, worth);
        }
    }

    private void tellText(boolean faulty) {
        StringBuilder text = new StringBuilder();
        List<int[]> items = new ArrayList<>();
        int lines = random.nextInt(faulty ? 60 : 40);
        for (int i = 0; i < lines && text.length() < 850; i++) {
            if (items.isEmpty() || random.nextInt(4) > 0) {
                int[] item = {random.nextInt(6), 60 + items.size(), book()};
                items.add(item);
                text.append("item ").append(item[0]).append(' ').append(item[1])
                    .append(item[2] < 0 ? " -" : " ").append(Math.abs(item[2])).append(';');
            } else {
                int[] item = items.get(random.nextInt(items.size()));
                if (item[2] > 0 || faulty && random.nextInt(9) == 0) {
                    int worth = random.nextInt(Math.min(99_999, 2 * Math.max(item[2], 0)) + 1);
                    text.append(" audit").append(item[0]).append("  ").append(item[1])
                        .append(' ').append(worth).append(" ;");
                }
            }
        }
        if (faulty && text.length() > 0) {
            spoil(text);
        }
        feedAndRead(text);
    }

    private void feedAndRead(StringBuilder text) {
        int length = text.length();
        while (text.length() % 20 != 0) {
            text.append((char) random.nextInt(256));
        }
        for (int i = 0; i < text.length(); i += 20) {
            call("feed", four(text, i), four(text, i + 4), four(text, i + 8), four(text, i + 12), four(text, i + 16));
        }
        call("text", length);
        call("fault", 0);
        call("fault", 1);
    }

    private void spoil(StringBuilder text) {
        int at = random.nextInt(text.length());
        String bad = new String[] {" ", ";", "-", "x", "9", "00000", "\u00e9", "\t", "item", "audit 1"}[random.nextInt(10)];
        bad = random.nextBoolean() ? bad : String.valueOf((char) random.nextInt(256));
        int digit = Math.max(0, text.lastIndexOf(String.valueOf(random.nextInt(10)), at));
        switch (random.nextInt(6)) {
            case 0 -> text.replace(at, at + 1, bad);
            case 1 -> text.setLength(at);
            case 2 -> text.deleteCharAt(at);
            case 3 -> text.insert(at, bad);
            case 4 -> text.insert(digit, 1 + random.nextInt(99_999));
            default -> text.setCharAt(digit, (char) ('0' + random.nextInt(10)));
        }
    }

    private static int four(StringBuilder text, int i) {
        return text.charAt(i) << 24 | text.charAt(i + 1) << 16 | text.charAt(i + 2) << 8 | text.charAt(i + 3);
    }

    private Method randomReader() {
        Method method;
        do {
            method = Face.METHODS.get(random.nextInt(Face.METHODS.size()));
        } while (WRITERS.contains(method.getName()));
        return method;
    }

    private void ask(Method method) {
        int[] args = new int[method.getParameterCount()];
        for (int i = 0; i < args.length; i++) {
            args[i] = argument(method.getName(), i);
        }
        call(method.getName(), args);
    }

    private int argument(String name, int i) {
        if (random.nextInt(40) == 0) {
            return new int[] {Integer.MIN_VALUE, Integer.MAX_VALUE, -2, -1, 0}[random.nextInt(5)];
        }
        int whats = (" " + WHATS).indexOf(" " + name + i + "=");
        if (whats >= 0 && random.nextInt(15) > 0) {
            int from = whats + name.length() + 2;
            int behind = (WHATS + " ").indexOf(' ', from);
            return random.nextInt(Integer.parseInt(WHATS.substring(from, behind)));
        }
        int interval = Math.max(1, model.count(3));
        return switch (name + i) {
            case "item0", "would0", "both0", "both1" -> random.nextInt(Math.max(0, model.count(0)) + 2) - 1;
            case "would1" -> random.nextInt(random.nextInt(2 * greatestBook + 2) + 1);
            case "coin0" -> random.nextInt(Math.max(0, model.count(2)) + 2);
            case "hit0" -> random.nextInt(Math.max(0, model.count(5)) + 2) - 1;
            case "account0" -> random.nextInt(7);
            case "find0" -> random.nextInt(6);
            case "find1" -> random.nextInt(60);
            case "certain0", "lacking0", "drawn0" -> random.nextInt(30) - 1;
            case "line1" -> random.nextInt(26) - 1;
            case "upper0", "upper1" -> random.nextInt(402) / (1 + random.nextInt(30));
            case "size0" -> 1 + random.nextInt(48 * greatestBook);
            case "taint0" -> random.nextInt(20) - 1;
            case "trial0" -> random.nextInt(interval + 2);
            case "were0" -> 1 + random.nextInt(3 * greatestBook);
            case "were1" -> 1 + random.nextInt(greatestBook);
            case "step0" -> random.nextInt(Math.max(0, model.count(4)) + 2);
            case "line0" -> random.nextInt(Math.max(0, model.drawn(-1)) + 2) - 1;
            case "accounts0" -> random.nextInt(8) - 1;
            default -> random.nextInt(11) - 1;
        };
    }

    private void call(String name, int... args) {
        if (wrong || calls == MOST_CALLS) {
            return;
        }
        calls++;
        int got = Face.answer(program, name, args);
        int due = Face.answer(model, name, args);
        told.append("\n  ").append(name).append(Arrays.toString(args)).append(" = ").append(got);
        if (got != due) {
            wrong = true;
            told.append(", the model answers ").append(due);
        }
    }
}
