import java.io.IOException;
import java.nio.file.Files;
import java.nio.file.Path;
import java.util.Arrays;
import java.util.Map;
import java.util.Set;
import java.util.TreeSet;
import java.util.regex.Matcher;
import java.util.regex.Pattern;

/** The example in README.md answers what is written beside it, and names every method. */
public final class ReadmeTest {
    private static final Path README = Path.of("README.md");
    private static final Pattern CALL =
        Pattern.compile("text\\.(\\w+)\\(([-0-9, ]+)\\);\\s+// (-?\\d+|[A-Z]+)(?:: .*)?");
    private static final Map<String, Integer> CONSTANTS =
        Map.of("BAD", BracketPairTree.BAD, "FULL", BracketPairTree.FULL, "NONE", BracketPairTree.NONE);
    private static final int METHODS = 10;

    private static final Check CHECK = new Check("ReadmeTest");

    public static void main(String[] args) throws IOException {
        Subject x = new Subject(CHECK, "");
        Set<String> called = new TreeSet<>();
        for (String line : Files.readAllLines(README)) {
            Matcher call = CALL.matcher(line);
            boolean isCall = call.matches();
            CHECK.yes("a call has its answer beside it: " + line, isCall || !line.startsWith("text."));
            if (isCall) {
                called.add(call.group(1));
                x.due(answer(call.group(3)), call.group(1), numbers(call.group(2)));
            }
        }
        CHECK.due("methods that the example calls", called.size(), METHODS);
        CHECK.finish();
    }

    private static int answer(String words) {
        Integer constant = CONSTANTS.get(words);
        return constant == null ? Integer.parseInt(words) : constant;
    }

    private static int[] numbers(String words) {
        return Arrays.stream(words.split(", ")).mapToInt(Integer::parseInt).toArray();
    }
}
