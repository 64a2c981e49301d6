import java.lang.reflect.Constructor;
import java.lang.reflect.Field;
import java.lang.reflect.Method;
import java.lang.reflect.Modifier;
import java.util.Arrays;
import java.util.Set;
import java.util.TreeSet;
import java.util.regex.Matcher;
import java.util.regex.Pattern;

/** The document's public face: the class, its constant, its constructor and its calls, and no others. */
public final class FaceTest {
    private static final String CALLS = """
            public int feed(int a, int b, int c, int d, int e);
            public int text(int n);
            public int fault(int what);
            public int terms(int what, int v);
            public int add(int account, int voucher, int book);
            public int post(int item, int v);
            public int audit(int item, int v);
            public int forget(int item);
            public int interval(int v);
            public int plan();
            public int draw();
            public int clear();
            public int find(int account, int voucher);
            public int item(int item, int what);
            public int coin(int c, int what);
            public int hit(int k, int what);
            public int start(int k);
            public int certain(int k);
            public int lacking(int k);
            public int account(int account, int what);
            public int accounts(int k);
            public int drawn(int k);
            public int line(int k, int i);
            public int upper(int n, int k);
            public int size(int tolerable);
            public int projected(int what);
            public int taint(int k, int what);
            public int bound(int what);
            public int below(int what);
            public int judged();
            public int would(int item, int v);
            public int dearest();
            public int more();
            public int step(int r, int what);
            public int risky();
            public int sizes(int e);
            public int trial(int start, int what);
            public int covered();
            public int caught(int k);
            public int worst(int what);
            public int chance(int what);
            public int were(int v, int start, int what);
            public int both(int item, int other);
            public int count(int what);
        }""";

    // What these do is free, so a class may have its own.
    private static final Set<String> FREE = Set.of("toString", "equals", "hashCode");

    public static void main(String[] args) {
        Sentences.run(FaceTest.class);
    }

    private static void same(String what, Object got, Object due) {
        Sentences.same(what, got, due);
    }

    @Says("public final class CoinSampler {")
    static void face_theClassIsPublicAndFinal() {
        same("the modifiers of the class", Modifier.toString(CoinSampler.class.getModifiers()), "public final");
        same("the class above it", CoinSampler.class.getSuperclass(), Object.class);
        same("the name with its package", CoinSampler.class.getName(), "CoinSampler");
    }

    @Says("public static final int NONE = -1;")
    static void face_theConstantAndNoOther() throws ReflectiveOperationException {
        Set<String> constants = new TreeSet<>();
        for (Field field : CoinSampler.class.getFields()) {
            constants.add(Modifier.toString(field.getModifiers()) + " " + field.getType() + " " + field.getName());
        }
        same("the public fields", constants, Set.of("public static final int NONE"));
        same("NONE", CoinSampler.class.getField("NONE").get(null), -1);
    }

    @Says("public CoinSampler();")
    static void face_theConstructorAndNoOther() {
        Constructor<?>[] constructors = CoinSampler.class.getDeclaredConstructors();
        same("how many constructors", constructors.length, 1);
        same("the modifiers of the constructor", Modifier.toString(constructors[0].getModifiers()), "public");
        same("its parameters", constructors[0].getParameterCount(), 0);
        same("the exceptions that it declares", constructors[0].getExceptionTypes().length, 0);
    }

    @Says(CALLS)
    static void face_theCallsAndNoOthers() {
        Set<String> due = new TreeSet<>();
        Matcher call = Pattern.compile("public int (\\w+)\\((.*)\\);").matcher(CALLS);
        while (call.find()) {
            due.add("int " + call.group(1) + "(" + call.group(2).replaceAll("int \\w+", "int").replace(" ", "") + ")");
        }
        Set<String> there = new TreeSet<>();
        for (Method method : CoinSampler.class.getDeclaredMethods()) {
            if (Modifier.isPublic(method.getModifiers()) && !FREE.contains(method.getName())) {
                there.add(written(method));
            }
        }
        same("how many calls the document has", due.size(), 44);
        same("the calls", there, due);
    }

    private static String written(Method method) {
        String types = Arrays.toString(method.getParameterTypes()).replaceAll("[\\[\\] ]", "");
        return (Modifier.isStatic(method.getModifiers()) ? "static " : "") + method.getReturnType() + " "
            + method.getName() + "(" + types + ")";
    }
}
