import java.io.File;
import java.io.IOException;
import java.io.OutputStream;
import java.io.PrintStream;
import java.lang.reflect.Method;
import java.net.MalformedURLException;
import java.net.URL;
import java.net.URLClassLoader;
import java.nio.file.Files;
import java.nio.file.Path;
import java.util.ArrayList;
import java.util.Comparator;
import java.util.HashSet;
import java.util.List;
import java.util.Set;
import java.util.concurrent.Callable;
import java.util.concurrent.ExecutionException;
import java.util.concurrent.ExecutorService;
import java.util.concurrent.Executors;
import java.util.concurrent.TimeUnit;
import java.util.concurrent.TimeoutException;
import javax.tools.ToolProvider;

/**
 * Breaks the program sentence by sentence, as src/test/mutants.txt tells, and looks whether the test of that sentence
 * fails then. A tool for who writes tests; .ci/run doesn't run it, for the program may be written otherwise.
 * <p>A mutant there: the test's name; then, once or more often, a line of "@ " and a text behind which (or none), one
 * of "- " and the text that goes away, one of "+ " and what comes for it. A blank line stands between two.
 */
public final class Mutants {
    private static final Path SOURCE = Path.of("src/main/java/CoinSampler.java");
    private static final Path LIST = Path.of("src/test/mutants.txt");
    private static final int SECONDS = 20;

    private record Edit(String behind, String from, String to) { }

    private record Mutant(int line, String test, List<Edit> edits) { }

    private static final PrintStream OUT = System.out;

    private Mutants() { }

    public static void main(String[] args) throws Exception {
        System.setOut(new PrintStream(OutputStream.nullOutputStream()));
        String source = Files.readString(SOURCE);
        List<Mutant> mutants = read();
        ExecutorService workers = Executors.newFixedThreadPool(Runtime.getRuntime().availableProcessors());
        List<java.util.concurrent.Future<String>> verdicts = new ArrayList<>();
        for (Mutant mutant : mutants) {
            Callable<String> trial = () -> verdict(mutant, source);
            verdicts.add(workers.submit(trial));
        }
        int failures = 0;
        for (int i = 0; i < mutants.size(); i++) {
            String verdict = verdicts.get(i).get();
            if (!verdict.isEmpty()) {
                failures++;
                OUT.println("line " + mutants.get(i).line + ": " + mutants.get(i).test + " " + verdict);
            }
        }
        failures += untried(mutants);
        OUT.println("Mutants: " + mutants.size() + ", " + failures + " faults");
        System.exit(failures == 0 ? 0 : 1);
    }

    private static int untried(List<Mutant> mutants) {
        Set<String> tried = new HashSet<>();
        mutants.forEach(mutant -> tried.add(mutant.test));
        int untried = 0;
        for (Class<?> tests : DocumentTest.TESTS) {
            for (Method test : Sentences.testsOf(tests)) {
                if (!tried.contains(test.getName())) {
                    untried++;
                    OUT.println(test.getName() + " is tried by no mutant");
                }
            }
        }
        return untried;
    }

    private static List<Mutant> read() throws IOException {
        List<Mutant> mutants = new ArrayList<>();
        Mutant mutant = null;
        String behind = "";
        String from = "";
        int number = 0;
        for (String line : Files.readAllLines(LIST)) {
            number++;
            if (line.isBlank()) {
                mutant = null;
                behind = "";
            } else if (mutant == null) {
                mutant = new Mutant(number, line, new ArrayList<>());
                mutants.add(mutant);
            } else if (line.startsWith("@ ")) {
                behind = line.substring(2);
            } else if (line.startsWith("- ")) {
                from = line.substring(2);
            } else {
                mutant.edits.add(new Edit(behind, from, line.length() < 2 ? "" : line.substring(2)));
            }
        }
        return mutants;
    }

    /** Empty, if the test fails by the mutant, as is due. */
    private static String verdict(Mutant mutant, String source) throws Exception {
        String mutated = source;
        for (Edit edit : mutant.edits) {
            int behind = mutated.indexOf(edit.behind);
            int at = behind < 0 ? -1 : mutated.indexOf(edit.from, behind);
            if (at < 0) {
                return "isn't tried, for this isn't there: " + edit.from;
            }
            if (edit.behind.isEmpty() && mutated.indexOf(edit.from, at + 1) >= 0) {
                return "isn't tried, for this is there twice: " + edit.from;
            }
            mutated = mutated.substring(0, at) + edit.to + mutated.substring(at + edit.from.length());
        }
        Path folder = Files.createTempDirectory("mutant");
        try {
            Path file = folder.resolve("CoinSampler.java");
            Files.writeString(file, mutated);
            int compiled = ToolProvider.getSystemJavaCompiler().run(null, OutputStream.nullOutputStream(),
                OutputStream.nullOutputStream(), "-nowarn", "-proc:none", "-d", folder.toString(), file.toString());
            return compiled != 0 ? "isn't tried, for the mutant isn't compiled" : verdictOf(folder, mutant.test);
        } finally {
            try (var files = Files.walk(folder)) {
                files.sorted(Comparator.reverseOrder()).map(Path::toFile).forEach(File::delete);
            }
        }
    }

    private static String verdictOf(Path folder, String test) throws Exception {
        List<URL> places = new ArrayList<>();
        places.add(folder.toUri().toURL());
        for (String place : System.getProperty("java.class.path").split(File.pathSeparator)) {
            places.add(url(place));
        }
        ExecutorService alone = Executors.newSingleThreadExecutor(task -> {
            Thread thread = new Thread(task);
            thread.setDaemon(true);
            return thread;
        });
        try (URLClassLoader loader = new URLClassLoader(places.toArray(new URL[0]), ClassLoader.getPlatformClassLoader())) {
            return alone.submit(() -> holds(loader, test)).get(SECONDS, TimeUnit.SECONDS);
        } catch (TimeoutException e) {
            return "";
        } catch (ExecutionException e) {
            return "can't be run: " + e.getCause();
        } finally {
            alone.shutdownNow();
        }
    }

    private static URL url(String place) throws MalformedURLException {
        return new File(place).toURI().toURL();
    }

    private static String holds(ClassLoader loader, String name) throws Exception {
        Method holds = loader.loadClass("Sentences").getDeclaredMethod("holds", Method.class);
        holds.setAccessible(true);
        for (Class<?> tests : DocumentTest.TESTS) {
            for (Method test : loader.loadClass(tests.getName()).getDeclaredMethods()) {
                if (test.getName().equals(name)) {
                    return (boolean) holds.invoke(null, test) ? "holds, though its sentence is broken" : "";
                }
            }
        }
        return "isn't there";
    }
}
