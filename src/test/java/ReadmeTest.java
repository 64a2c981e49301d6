import java.io.IOException;
import java.nio.file.Files;
import java.nio.file.Path;
import java.util.Arrays;
import java.util.regex.Matcher;
import java.util.regex.Pattern;

/** Whether the calls that README.md shows answer what stands behind them. */
public final class ReadmeTest {
    private static final Path README = Path.of("README.md");
    private static final Pattern CALL = Pattern.compile("sampler\\.(\\w+)\\((.*?)\\); +// (-?\\d+)(:.*)?");

    public static void main(String[] args) throws IOException {
        CoinSampler sampler = null;
        int calls = 0;
        for (String line : Files.readAllLines(README)) {
            Matcher call = CALL.matcher(line);
            if (line.startsWith("CoinSampler sampler = new CoinSampler();")) {
                sampler = new CoinSampler();
            } else if (call.matches()) {
                calls++;
                Checks.due(line, Face.answer(sampler, call.group(1), numbers(call.group(2))),
                    Integer.parseInt(call.group(3)));
            } else {
                Checks.due("calls that aren't told as others are: " + line, line.startsWith("sampler.") ? 1 : 0, 0);
            }
        }
        Checks.due("some calls are shown", calls > 0 ? 1 : 0, 1);
        Checks.end("ReadmeTest");
    }

    private static int[] numbers(String arguments) {
        return Arrays.stream(arguments.split(", ")).filter(a -> !a.isEmpty())
            .mapToInt(a -> Integer.decode(a.replace("_", ""))).toArray();
    }
}
