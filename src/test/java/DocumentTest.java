import java.io.IOException;
import java.lang.reflect.Method;
import java.nio.file.Files;
import java.nio.file.Path;
import java.util.BitSet;
import java.util.HashSet;
import java.util.LinkedHashMap;
import java.util.List;
import java.util.Map;
import java.util.Set;
import java.util.regex.Matcher;
import java.util.regex.Pattern;

/** Whether each word of the document's terms and promises is one that a test of its own quotes. */
public final class DocumentTest {
    private static final Path DOCUMENT = Path.of("../shared/DOC.md");
    static final List<Class<?>> TESTS = List.of(FaceTest.class, Terms1Test.class, Terms2Test.class, Terms3Test.class,
        ChangesTest.class, Promises1To13Test.class, Promises14To24Test.class, Promises25To31Test.class,
        Promises32To45Test.class);

    private static int wrong = 0;

    public static void main(String[] args) throws IOException {
        if (!Files.exists(DOCUMENT)) {
            System.out.println("DocumentTest: " + DOCUMENT + " isn't there, so nothing can be said");
            return;
        }
        Map<String, String> parts = parts(Files.readString(DOCUMENT));
        Map<String, BitSet> quoted = new LinkedHashMap<>();
        parts.keySet().forEach(part -> quoted.put(part, new BitSet()));
        Set<String> names = new HashSet<>();
        int tests = 0;
        for (Class<?> sentences : TESTS) {
            for (Method test : Sentences.testsOf(sentences)) {
                tests++;
                check("two tests of the name " + test.getName(), names.add(test.getName()));
                mark(test, parts, quoted);
            }
        }
        parts.forEach((part, text) -> unquoted(part, text, quoted.get(part)));
        System.out.println("DocumentTest: " + tests + " tests of " + parts.size() + " parts, " + wrong + " faults");
        System.exit(wrong == 0 ? 0 : 1);
    }

    private static void check(String fault, boolean holds) {
        if (!holds) {
            wrong++;
            System.out.println("DocumentTest: " + fault);
        }
    }

    /** The parts that tests are named after: whatItIs, face, constants, terms1 to terms3, promise1 and so on. */
    private static Map<String, String> parts(String document) {
        Map<String, String> parts = new LinkedHashMap<>();
        String text = document.replaceAll("```\\w*", " ").replaceAll("\\s+", " ");
        put(parts, "whatItIs", text, "(An object is used .*?;)");
        put(parts, "face", text, "## The public face (.*?) ## Terms");
        put(parts, "constants", text, "The constants: `(NONE = -1)`: (There is none\\.)");
        put(parts, "terms1", text, "==== 1\\. (.*?)==== 2\\.");
        put(parts, "terms2", text, "==== 2\\. (.*?)==== 3\\.");
        put(parts, "terms3", text, "==== 3\\. (.*?)The constants:");
        Matcher promise = Pattern.compile("## Promise (\\d+): [^`]*`[^`]*`: (.*?)(?= ## )").matcher(text);
        while (promise.find()) {
            parts.put("promise" + promise.group(1), promise.group(2));
        }
        check("45 promises are found", parts.size() == 51);
        return parts;
    }

    private static void put(Map<String, String> parts, String name, String text, String pattern) {
        Matcher matcher = Pattern.compile(pattern).matcher(text);
        if (matcher.find()) {
            StringBuilder part = new StringBuilder();
            for (int group = 1; group <= matcher.groupCount(); group++) {
                part.append(matcher.group(group)).append(group == 1 && matcher.groupCount() == 2 ? ": " : "");
            }
            parts.put(name, part.toString());
        } else {
            check("there is no " + name, false);
        }
    }

    private static void mark(Method test, Map<String, String> parts, Map<String, BitSet> quoted) {
        String part = test.getName().replaceAll("_.*", "");
        check(test.getName() + " is of no part", parts.containsKey(part));
        for (String quote : test.getAnnotation(Says.class).value()) {
            String words = Pattern.quote(quote.replaceAll("\\s+", " "));
            Matcher matcher = Pattern.compile("(?<=^|\\W)" + words).matcher(parts.getOrDefault(part, ""));
            boolean isThere = false;
            while (matcher.find()) {
                isThere = true;
                quoted.get(part).set(matcher.start(), matcher.end());
            }
            check(test.getName() + " quotes what isn't there: " + quote, isThere);
        }
    }

    private static void unquoted(String part, String text, BitSet quoted) {
        Matcher word = Pattern.compile("[\\w,.-]*\\w").matcher(text);
        StringBuilder missing = new StringBuilder();
        while (word.find()) {
            if (quoted.nextClearBit(word.start()) < word.end()) {
                missing.append(' ').append(word.group());
            }
        }
        check("no test quotes of " + part + ":" + missing, missing.length() == 0);
    }
}
