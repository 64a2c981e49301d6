import java.lang.reflect.Method;
import java.util.Arrays;

/** Every method with every mix of odd numbers, in several states: as PlainSampler answers, and nothing is thrown. */
public final class EdgeTest {
    private static final int[] ODD = {Integer.MIN_VALUE, -10_000_000, -2, -1, 0, 1, 2, 5, 9, 15, 47, 48, 49, 400, 401,
        9_999_999, 10_000_000, Integer.MAX_VALUE - 1, Integer.MAX_VALUE};
    private static final int STATES = 6;
    // Some 110 calls make a state, and nothing is promised of an object behind its 512th.
    private static final int ASKED_OF_ONE = 400;

    private CoinSampler program;
    private PlainSampler model;

    public static void main(String[] args) {
        EdgeTest test = new EdgeTest();
        for (int state = 0; state < STATES; state++) {
            for (Method method : Face.METHODS) {
                test.askAll(method, state);
            }
        }
        new EdgeTest().askInTurn();
        Checks.end("EdgeTest");
    }

    // One method behind another, each of which may change what the next ones find; risky() is dear, and asked above.
    private void askInTurn() {
        for (int call = 0; call < 20_000; call++) {
            if (call % ASKED_OF_ONE == 0) {
                make(1 + call / ASKED_OF_ONE % (STATES - 1));
            }
            Method method = Face.METHODS.get(call % Face.METHODS.size());
            if (method.getName().equals("risky")) {
                continue;
            }
            int[] args = new int[method.getParameterCount()];
            for (int i = 0; i < args.length; i++) {
                args[i] = ODD[(call / 7 + call / 91 * (i + 3)) % ODD.length];
            }
            both(method.getName(), args);
        }
    }

    private void make(int state) {
        program = new CoinSampler();
        model = new PlainSampler();
        if (state == 0) {
            return;
        }
        int items = state == 1 ? 1 : 48;
        for (int i = 0; i < items; i++) {
            both("add", i % 7, i, state == 2 ? -i : state == 4 && i == 3 ? 0 : 9 + i);
            both("audit", i, i % 5 == 4 ? 2 * i : i / 2);
        }
        if (state >= 3) {
            both("interval", state == 3 ? 59 : state == 4 ? 20 : 5);
            both("terms", 3, state % 2);
        }
        for (int r = 0; r < 5 && state != 4; r++) {
            both("draw");
        }
    }

    private void both(String name, int... args) {
        Checks.due(name + Arrays.toString(args), Face.answer(program, name, args), Face.answer(model, name, args));
    }

    private void askAll(Method method, int state) {
        int count = method.getParameterCount();
        if (count == 5) {
            make(state);
            for (int i = 0; i < 50; i++) {
                both("feed", ODD[i % ODD.length], 0, -i, i, ODD[i % 3]);
            }
            return;
        }
        int mixes = (int) Math.round(Math.pow(ODD.length, count));
        for (int mix = 0; mix < mixes; mix++) {
            if (mix % ASKED_OF_ONE == 0) {
                make(state);
            }
            int[] args = new int[count];
            int left = mix;
            for (int i = 0; i < count; i++) {
                args[i] = ODD[left % ODD.length];
                left /= ODD.length;
            }
            both(method.getName(), args);
        }
    }
}
