import java.io.IOException;
import java.lang.reflect.Constructor;
import java.lang.reflect.Field;
import java.lang.reflect.Method;
import java.lang.reflect.Modifier;
import java.nio.file.Files;
import java.nio.file.Path;
import java.util.ArrayList;
import java.util.List;
import java.util.Set;
import java.util.TreeSet;
import java.util.regex.Matcher;
import java.util.regex.Pattern;

/** What of ../shared/LANGUAGE.md can be seen from the source's words and from the compiled classes. */
public final class LanguageTest {
    private static final Path SOURCE = Path.of("src/main/java/CoinSampler.java");
    private static final List<String> BANNED = List.of("\\bpackage\\b", "\\b(try|catch|finally|throws?)\\b", "\\bassert\\b",
        "\\bsynchronized\\b", "\\binstanceof\\b", "->", "::", "\\bprotected\\b", "\\bSystem\\b", "\\bThread\\b",
        "\\bStringBuilder\\b", "\\b\\w+Exact\\b", "\\bstatic \\{", "\\bvar\\b", "\"\\s*\\+", "\\+\\s*\"");

    private static int wrong = 0;

    public static void main(String[] args) throws IOException {
        List<String> lines = Files.readAllLines(SOURCE);
        words(lines);
        objectsAreMadeOnce(lines);
        lengths(lines);
        face();
        for (Class<?> inside : CoinSampler.class.getDeclaredClasses()) {
            classInside(inside);
        }
        check("classes", CoinSampler.class.getDeclaredClasses().length + 1 <= 12);
        System.out.println("LanguageTest: " + wrong + " faults");
        System.exit(wrong == 0 ? 0 : 1);
    }

    private static void check(String what, boolean holds) {
        if (!holds) {
            wrong++;
            System.out.println("LanguageTest: " + what);
        }
    }

    private static void words(List<String> lines) {
        for (int i = 0; i < lines.size(); i++) {
            String code = lines.get(i).replaceAll("//.*|/\\*\\*.*", "");
            String where = "line " + (i + 1) + ": " + code.trim();
            for (String banned : BANNED) {
                check(banned + " in " + where, !Pattern.compile(banned).matcher(code).find());
            }
            check(where, !code.contains("import") || code.equals("import java.util.Arrays;"));
            Matcher library = Pattern.compile("\\b(Math|Arrays|Integer|Long)\\.(\\w+)").matcher(code);
            while (library.find()) {
                check(where, Set.of("max", "min", "floorMod", "fill").contains(library.group(2)));
            }
            check(where, code.chars().allMatch(c -> c >= 32 && c < 127));
        }
    }

    // All runs live in one room, so an object may be made for a field alone.
    private static void objectsAreMadeOnce(List<String> lines) {
        Pattern field = Pattern.compile("( {8}(private )?final [\\w\\[\\]]+ \\w+ = new [^;]+;)|( {8}\\w+ = new \\w+\\([^;]*\\);)");
        for (int i = 0; i < lines.size(); i++) {
            if (lines.get(i).matches(".*\\bnew\\b [A-Za-z].*")) {
                check("new in line " + (i + 1), field.matcher(lines.get(i)).matches());
            }
        }
    }

    private static void lengths(List<String> lines) {
        int from = -1;
        for (int i = 0; i < lines.size(); i++) {
            if (lines.get(i).matches("( {4}| {8})[\\w\\[\\] ]+\\(.*\\) \\{")) {
                from = i;
            } else if (from >= 0 && lines.get(i).matches("( {4}| {8})\\}")) {
                check("a long method at line " + (from + 1), i - from <= 60);
                from = -1;
            }
        }
    }

    private static Set<String> publicNames() {
        Set<String> names = new TreeSet<>();
        for (Method method : CoinSampler.class.getDeclaredMethods()) {
            if (Modifier.isPublic(method.getModifiers())) {
                names.add(method.getName());
            }
        }
        return names;
    }

    private static void face() {
        Set<String> due = new TreeSet<>();
        Face.METHODS.forEach(method -> due.add(method.getName()));
        check("the methods of the face", publicNames().equals(due) && due.size() == 44);
        for (Method method : CoinSampler.class.getDeclaredMethods()) {
            int modifiers = method.getModifiers();
            check("public or private: " + method, Modifier.isPublic(modifiers) || Modifier.isPrivate(modifiers));
            check("a private method of a public name: " + method,
                Modifier.isPublic(modifiers) || !due.contains(method.getName()));
        }
        for (Field field : CoinSampler.class.getDeclaredFields()) {
            check("public or private: " + field,
                Modifier.isPrivate(field.getModifiers()) || field.getName().equals("NONE"));
            check("static, but not final: " + field, staticIsFinal(field));
        }
        check("constructors", CoinSampler.class.getDeclaredConstructors().length == 1);
    }

    private static boolean staticIsFinal(Field field) {
        return !Modifier.isStatic(field.getModifiers()) || Modifier.isFinal(field.getModifiers());
    }

    private static void classInside(Class<?> inside) {
        Set<String> names = publicNames();
        check("static: " + inside, Modifier.isStatic(inside.getModifiers()));
        check("private: " + inside, Modifier.isPrivate(inside.getModifiers()));
        List<Field> fields = new ArrayList<>(List.of(inside.getDeclaredFields()));
        for (Field field : fields) {
            check("static, but not final: " + field, staticIsFinal(field));
        }
        fields.removeIf(field -> Modifier.isStatic(field.getModifiers()));
        check("fields of " + inside, fields.size() <= 20);
        for (Method method : inside.getDeclaredMethods()) {
            check("parameters of " + method, method.getParameterCount() <= 7);
            check("a name of the face: " + method, !names.contains(method.getName()));
        }
        for (Constructor<?> constructor : inside.getDeclaredConstructors()) {
            check("parameters of " + constructor, constructor.getParameterCount() <= 7);
        }
    }
}
