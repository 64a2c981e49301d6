import com.sun.management.ThreadMXBean;
import java.lang.management.ManagementFactory;
import java.util.LinkedHashMap;
import java.util.Map;
import java.util.function.ToIntFunction;

/**
 * All calls of one run live in one room of some 600,000 objects and arrays, 7.3 million fields and elements in all:
 * 512 calls of one kind that take more bytes than these can have don't fit in.
 */
public final class RoomTest {
    private static final long ROOM = 600_000L * 16 + 7_300_000L * 8;
    private static final int MOST_CALLS = 512;
    private static final int MEASURED = 20;
    private static final ThreadMXBean THREADS = (ThreadMXBean) ManagementFactory.getThreadMXBean();

    private static int wrong = 0;

    public static void main(String[] args) {
        Map<String, ToIntFunction<CoinSampler>> calls = calls();
        calls.forEach(RoomTest::measure);
        long made = bytesOf(() -> full().count(0));
        check("a new object of " + made + " bytes", made < ROOM / 100);
        System.out.println("RoomTest: " + calls.size() + " calls, " + wrong + " of them too large");
        System.exit(wrong == 0 ? 0 : 1);
    }

    private static void check(String what, boolean holds) {
        if (!holds) {
            wrong++;
            System.out.println("RoomTest: " + what);
        }
    }

    private static void measure(String name, ToIntFunction<CoinSampler> call) {
        CoinSampler x = full();
        call.applyAsInt(x);
        long bytes = bytesOf(() -> {
            for (int i = 0; i < MEASURED; i++) {
                call.applyAsInt(x);
            }
        });
        check(name + " takes " + bytes / MEASURED + " bytes a call", bytes / MEASURED * MOST_CALLS < ROOM);
    }

    private static long bytesOf(Runnable task) {
        long thread = Thread.currentThread().getId();
        long before = THREADS.getThreadAllocatedBytes(thread);
        task.run();
        return THREADS.getThreadAllocatedBytes(thread) - before;
    }

    /** 48 items that are hit by each of five runs, all with a taint. */
    private static CoinSampler full() {
        CoinSampler x = new CoinSampler();
        for (int i = 0; i < 48; i++) {
            x.add(i, i, 99_998 - i);
            x.audit(i, 1_000 * i);
        }
        x.interval(99_999);
        for (int r = 0; r < 5; r++) {
            x.draw();
        }
        return x;
    }

    private static Map<String, ToIntFunction<CoinSampler>> calls() {
        Map<String, ToIntFunction<CoinSampler>> calls = new LinkedHashMap<>();
        calls.put("feed and text", x -> x.feed(0, 0, 0, 0, 0) + x.text(20));
        calls.put("fault", x -> x.fault(0));
        calls.put("terms", x -> x.terms(4, 7));
        calls.put("add", x -> x.add(1, 99, 1));
        calls.put("post", x -> x.post(1, 1));
        calls.put("audit and forget", x -> x.audit(1, 1) + x.forget(1));
        calls.put("interval", x -> x.interval(5));
        calls.put("plan", CoinSampler::plan);
        calls.put("clear and draw", x -> x.clear() + x.interval(99_999) + x.draw());
        calls.put("find", x -> x.find(47, 47));
        calls.put("item", x -> x.item(47, 7));
        calls.put("coin", x -> x.coin(4_000_000, 2));
        calls.put("hit and start", x -> x.hit(200, 3) + x.start(4));
        calls.put("lists", x -> x.certain(-1) + x.lacking(-1) + x.drawn(-1) + x.accounts(-1));
        calls.put("account", x -> x.account(47, 5));
        calls.put("line", x -> x.line(47, 5));
        calls.put("upper", x -> x.upper(400, 399));
        calls.put("size and sizes", x -> x.size(40_000) + x.sizes(9));
        calls.put("projected", x -> x.projected(4));
        calls.put("taint", x -> x.taint(200, 2));
        calls.put("bound and below", x -> x.bound(3) + x.below(3));
        calls.put("judged", CoinSampler::judged);
        calls.put("would", x -> x.would(1, 5));
        calls.put("dearest", CoinSampler::dearest);
        calls.put("more", CoinSampler::more);
        calls.put("step", x -> x.step(4, 1));
        calls.put("risky", CoinSampler::risky);
        calls.put("trial", x -> x.trial(5, 2));
        calls.put("covered", CoinSampler::covered);
        calls.put("caught", x -> x.caught(40));
        calls.put("worst", x -> x.worst(1));
        calls.put("chance", x -> x.chance(1));
        calls.put("were", x -> x.were(99_999, 5, 3));
        calls.put("both", x -> x.both(1, 40));
        calls.put("count", x -> x.count(6));
        return calls;
    }
}
