import java.io.IOException;
import java.nio.file.Files;
import java.nio.file.Path;
import java.util.Map;
import java.util.Set;
import java.util.TreeMap;
import java.util.TreeSet;
import java.util.regex.Matcher;
import java.util.regex.Pattern;

/** The rules of LANGUAGE.md that can be read off the text of the class, and that no call ever throws. */
public final class LanguageTest {
    private static final Path SOURCE = Path.of("src/main/java/BracketPairTree.java");

    private static final String[] FORBIDDEN = {
        "import", "package", "float", "double", "String", "Math", "Integer", "System", "Arrays", "Object", "null",
        "throw", "throws", "try", "catch", "finally", "synchronized", "assert", "instanceof", "interface", "enum",
        "record", "protected", "var"};

    private static final Pattern METHOD =
        Pattern.compile("(?ms)^    (?:public|private) (?:static )?(?:\\w+ )?(\\w+)\\([^)]*\\) \\{\n(.*?)^    \\}$");
    private static final Pattern CALL = Pattern.compile("\\b(?!if\\b|for\\b|while\\b|switch\\b)(\\w+)\\(");
    private static final Pattern LOOP =
        Pattern.compile("for \\(int (\\w+) = [^;]+; \\1 (?:<=? [^;|]+; \\1\\+\\+|>=? [^;|]+; \\1--)\\) \\{");

    private static final int LONGEST_METHOD = 60;
    private static final int DEEPEST_CALL = 6;

    private static final Check CHECK = new Check("LanguageTest");

    public static void main(String[] args) throws IOException {
        String code = Files.readString(SOURCE).replaceAll("(?s)/\\*.*?\\*/", "").replaceAll("//.*", "");
        Map<String, String> methods = methodsIn(code);
        theWords(code);
        theArrays(code);
        theLoops(code);
        theLengths(methods);
        theArguments(methods);
        theDepthOfCalls(methods);
        noCallThrows();
        CHECK.finish();
    }

    private static Map<String, String> methodsIn(String code) {
        Map<String, String> methods = new TreeMap<>();
        Matcher found = METHOD.matcher(code);
        while (found.find()) {
            methods.put(found.group(1), found.group(2));
        }
        int declared = BracketPairTree.class.getDeclaredMethods().length;
        CHECK.due("methods and constructors that this test found in the text", methods.size(), declared + 1);
        return methods;
    }

    // Rules 1, 2, 3, 5 and 6. Without a dot there is no call of the library's or of Object's methods.

    private static void theWords(String code) {
        for (String word : FORBIDDEN) {
            Matcher found = Pattern.compile("\\b" + word + "\\b").matcher(code);
            CHECK.yes("the text is without the word " + word, !found.find());
        }
        CHECK.yes("the text is without a dot", !code.contains("."));
        CHECK.yes("the text is without a lambda", !code.contains("->"));
        CHECK.yes("the text is without a method reference", !code.contains("::"));
        CHECK.yes("the text is without a static initialiser", !code.contains("static {"));
    }

    // Rule 4

    private static void theArrays(String code) {
        for (String line : code.split("\n")) {
            boolean isFieldOfArray = line.matches("    private final \\w+\\[\\] \\w+ = new \\w+\\[[A-Z_]+\\];");
            CHECK.yes("an array is made in a field alone: " + line, !line.contains("new ") || isFieldOfArray);
        }
    }

    // Rule 8: "Every loop has an end that can be seen from its own lines (a counter against a bound)."

    private static void theLoops(String code) {
        CHECK.yes("no loop is without a counter", !Pattern.compile("\\b(while|do)\\b").matcher(code).find());
        Matcher loop = Pattern.compile("\\bfor\\b").matcher(code);
        while (loop.find()) {
            String rest = code.substring(loop.start());
            String head = rest.substring(0, rest.indexOf('\n'));
            Matcher counted = LOOP.matcher(head);
            boolean isCounted = counted.matches();
            CHECK.yes("a loop steps a counter by one towards a bound: " + head, isCounted);
            if (isCounted) {
                String counter = counted.group(1);
                String body = rest.substring(head.length(), rest.indexOf("\n    }\n"));
                CHECK.yes(counter + " is not changed inside: " + head, !changes(counter, body));
            }
        }
    }

    private static boolean changes(String counter, String body) {
        String beforeNextLoop = body.split("for \\(int " + counter + " ")[0];
        String change = "\\b" + counter + "(\\+\\+|--| [-+*/%&|^]?= )|(\\+\\+|--)" + counter + "\\b";
        return Pattern.compile(change).matcher(beforeNextLoop).find();
    }

    // Rule 10: "Methods stay short (some sixty lines)"

    private static void theLengths(Map<String, String> methods) {
        methods.forEach((name, body) -> CHECK.yes(name + " is short", body.lines().count() <= LONGEST_METHOD));
    }

    // Rule 10: "no call stands inside the arguments of another call"

    private static void theArguments(Map<String, String> methods) {
        methods.forEach((name, body) -> {
            Matcher call = CALL.matcher(body);
            while (call.find()) {
                String arguments = argumentsAt(body, call.end());
                CHECK.yes("in " + name + " no call inside " + arguments, !CALL.matcher(arguments).find());
            }
        });
    }

    private static String argumentsAt(String body, int start) {
        int end = start;
        for (int open = 1; open > 0; end++) {
            open += body.charAt(end) == '(' ? 1 : body.charAt(end) == ')' ? -1 : 0;
        }
        return body.substring(start, end - 1);
    }

    // Rule 8: "No recursion, neither direct nor through other methods." Rule 10: "calls go at most six deep"

    private static void theDepthOfCalls(Map<String, String> methods) {
        for (String name : methods.keySet()) {
            Set<String> reached = Set.of(name);
            int depth = 0;
            while (!reached.isEmpty() && depth <= DEEPEST_CALL) {
                reached = calledBy(methods, reached);
                depth++;
                CHECK.yes(name + " does not call itself", !reached.contains(name));
            }
            CHECK.yes("the calls of " + name + " end within " + DEEPEST_CALL, reached.isEmpty());
        }
    }

    private static Set<String> calledBy(Map<String, String> methods, Set<String> callers) {
        Set<String> called = new TreeSet<>();
        for (String caller : callers) {
            Matcher call = CALL.matcher(methods.getOrDefault(caller, ""));
            while (call.find()) {
                CHECK.yes(call.group(1) + " is a method of the class", methods.containsKey(call.group(1)));
                called.add(call.group(1));
            }
        }
        return called;
    }

    // Rule 7: "No call may ever throw or fail to end, for any arguments in any state", also after the 512th call, where
    // the document leaves the answers free.

    private static void noCallThrows() {
        for (int seed = 1; seed <= 50; seed++) {
            Numbers numbers = new Numbers(seed);
            BracketPairTree x = new BracketPairTree();
            for (int calls = 0; calls < 5000; calls++) {
                anyCall(x, numbers);
            }
        }
    }

    private static void anyCall(BracketPairTree x, Numbers numbers) {
        int a = anyNumber(numbers);
        int b = anyNumber(numbers);
        int c = anyNumber(numbers);
        int method = numbers.below(20);
        try {
            switch (method) {
                case 0 -> x.erase(a, b);
                case 1 -> x.move(a, b, c);
                case 2 -> x.mirror(a, b);
                case 3 -> x.codeAt(a);
                case 4 -> x.partner(a);
                case 5 -> x.around(a, b);
                case 6 -> x.depth(a, b);
                case 7 -> x.looseOpen(a, b, c);
                case 8 -> x.looseClose(a, b, c);
                default -> x.insert(a, b);
            }
        } catch (RuntimeException thrown) {
            CHECK.fault("method " + method + " with " + a + ", " + b + ", " + c + " has thrown " + thrown);
        }
    }

    private static int anyNumber(Numbers numbers) {
        int wide = numbers.below(1 << 16) << 16 | numbers.below(1 << 16);
        return switch (numbers.below(10)) {
            case 0 -> wide;
            case 1 -> Integer.MIN_VALUE + numbers.below(62);
            case 2 -> Integer.MAX_VALUE - numbers.below(62);
            case 3, 4 -> numbers.below(130) - 65;
            default -> numbers.below(7);
        };
    }
}
