import java.io.IOException;
import java.lang.reflect.Constructor;
import java.lang.reflect.Field;
import java.lang.reflect.Method;
import java.lang.reflect.Modifier;
import java.nio.file.Files;
import java.nio.file.Path;
import java.util.ArrayList;
import java.util.List;
import java.util.Set;
import java.util.TreeSet;
import java.util.regex.Pattern;

/** What of ../shared/LANGUAGE.md can be seen from the source's words and from the compiled classes, and no more. */
public final class LanguageTest {
    private static final Path SOURCE = Path.of("src/main/java/CoinSampler.java");
    private static final String THROWN = "(IllegalState|IllegalArgument|IndexOutOfBounds|Arithmetic|UnsupportedOperation"
        + "|NoSuchElement|Runtime)Exception";
    private static final List<String> BANNED = List.of("\\bpackage\\b", "\\bfinally\\b", "\\bassert\\b",
        "\\bsynchronized\\b", "\\bprotected\\b", "\\bThread\\b", "\\bstatic \\{", "::", "\"\\s*\\+", "\\+\\s*\"",
        "\\btry\\s*\\(", "\\bthrow (?!new " + THROWN + "\\()", "\\bcatch \\((?!(final )?" + THROWN + ")",
        "\\bSystem\\.(?!arraycopy\\()", "\\b(Math|Integer|Long)\\.\\w+Exact\\b",
        "\\bMath\\.(sqrt|cbrt|pow|exp|log\\w*|sin|cos|tan|random|floor|ceil|rint|round|hypot)\\b",
        "\\bArrays\\.(?!(copyOf|copyOfRange|fill)\\()",
        "^import (?!java\\.util\\.(Arrays|ArrayList|List|Iterator|NoSuchElementException);)",
        // A lambda; the arrow of a switch's case is none.
        "^(?!\\s*(case|default)\\b).*->");

    // Where the rule says "some", a little more is let pass.
    private static final int SOME_SIXTY = 70;
    private static final int SOME_TWELVE = 15;
    private static final int SOME_TWENTY = 25;

    private static int wrong = 0;

    public static void main(String[] args) throws IOException {
        List<String> lines = Files.readAllLines(SOURCE);
        words(lines);
        lengths(lines);
        face();
        for (Class<?> inside : CoinSampler.class.getDeclaredClasses()) {
            classInside(inside);
        }
        check("classes", CoinSampler.class.getDeclaredClasses().length + 1 <= SOME_TWELVE);
        System.out.println("LanguageTest: " + wrong + " faults");
        System.exit(wrong == 0 ? 0 : 1);
    }

    private static void check(String what, boolean holds) {
        if (!holds) {
            wrong++;
            System.out.println("LanguageTest: " + what);
        }
    }

    private static void words(List<String> lines) {
        for (int i = 0; i < lines.size(); i++) {
            String code = lines.get(i).replaceAll("//.*|/\\*\\*.*|^\\s*\\*.*", "");
            String where = "line " + (i + 1) + ": " + code.trim();
            for (String banned : BANNED) {
                check(banned + " in " + where, !Pattern.compile(banned).matcher(code).find());
            }
            check(where, code.chars().allMatch(c -> c >= 32 && c < 127 || c == '\t'));
        }
    }

    private static void lengths(List<String> lines) {
        int from = -1;
        for (int i = 0; i < lines.size(); i++) {
            if (lines.get(i).matches("( {4}| {8})[\\w\\[\\] ]+\\(.*\\) \\{")) {
                from = i;
            } else if (from >= 0 && lines.get(i).matches("( {4}| {8})\\}")) {
                check("a long method at line " + (from + 1), i - from <= SOME_SIXTY);
                from = -1;
            }
        }
    }

    private static Set<String> publicNames() {
        Set<String> names = new TreeSet<>();
        for (Method method : CoinSampler.class.getDeclaredMethods()) {
            if (Modifier.isPublic(method.getModifiers())) {
                names.add(method.getName());
            }
        }
        return names;
    }

    private static void face() {
        Set<String> due = new TreeSet<>();
        Face.METHODS.forEach(method -> due.add(method.getName()));
        check("the methods of the face", publicNames().equals(due) && due.size() == 44);
        for (Method method : CoinSampler.class.getDeclaredMethods()) {
            if (method.isSynthetic()) {
                continue;
            }
            int modifiers = method.getModifiers();
            check("public or private: " + method, Modifier.isPublic(modifiers) || Modifier.isPrivate(modifiers));
            check("a private method of a public name: " + method,
                Modifier.isPublic(modifiers) || !due.contains(method.getName()));
        }
        for (Field field : CoinSampler.class.getDeclaredFields()) {
            check("public or private: " + field, field.isSynthetic() ||
                Modifier.isPrivate(field.getModifiers()) || field.getName().equals("NONE"));
            check("static, but not final: " + field, staticIsFinal(field));
        }
        check("constructors", CoinSampler.class.getDeclaredConstructors().length == 1);
    }

    private static boolean staticIsFinal(Field field) {
        return !Modifier.isStatic(field.getModifiers()) || Modifier.isFinal(field.getModifiers());
    }

    private static void classInside(Class<?> inside) {
        int modifiers = inside.getModifiers();
        check("private or package-visible: " + inside, !Modifier.isPublic(modifiers) && !Modifier.isProtected(modifiers));
        List<Field> fields = new ArrayList<>(List.of(inside.getDeclaredFields()));
        for (Field field : fields) {
            check("static, but not final: " + field, staticIsFinal(field));
        }
        fields.removeIf(field -> Modifier.isStatic(field.getModifiers()));
        check("fields of " + inside, fields.size() <= SOME_TWENTY);
        for (Method method : inside.getDeclaredMethods()) {
            check("parameters of " + method, method.getParameterCount() <= 7);
        }
        for (Constructor<?> constructor : inside.getDeclaredConstructors()) {
            check("parameters of " + constructor, constructor.getParameterCount() <= 7);
        }
    }
}
