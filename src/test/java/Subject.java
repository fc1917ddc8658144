import java.util.Arrays;

/**
 * One object under test, made with a text. Each call is compared with the answer that is due, and
 * counted, because the document leaves free what an object answers after its 512th call.
 */
final class Subject {
    static final int CALLS = 512;

    private static final int BAD = -1;

    private final Check check;
    private final String start;
    private final BracketPairTree x = new BracketPairTree();
    private int calls = 0;

    /** A text is written as its codes: "1024" is an opening bracket, a plain character and two brackets more. */
    Subject(Check check, String codes) {
        this.check = check;
        start = codes;
        for (int at = 0; at < codes.length(); at++) {
            due(at + 1, "insert", at, codes.charAt(at) - '0');
        }
    }

    int callsMade() {
        return calls;
    }

    void due(int want, String method, int... arguments) {
        int got = call(method, arguments);
        String name = method + Arrays.toString(arguments);
        check.due("text made as \"" + start + "\", call " + calls + ": " + name, got, want);
    }

    int call(String method, int... a) {
        calls++;
        if (calls > CALLS) {
            check.fault("text made as \"" + start + "\": the test itself makes more than " + CALLS + " calls");
        }
        return switch (method) {
            case "insert" -> x.insert(a[0], a[1]);
            case "erase" -> x.erase(a[0], a[1]);
            case "move" -> x.move(a[0], a[1], a[2]);
            case "mirror" -> x.mirror(a[0], a[1]);
            case "codeAt" -> x.codeAt(a[0]);
            case "partner" -> x.partner(a[0]);
            case "around" -> x.around(a[0], a[1]);
            case "depth" -> x.depth(a[0], a[1]);
            case "looseOpen" -> x.looseOpen(a[0], a[1], a[2]);
            case "looseClose" -> x.looseClose(a[0], a[1], a[2]);
            default -> throw new IllegalArgumentException(method);
        };
    }

    void textIs(String codes) {
        due(codes.length(), "erase", 0, 0);
        for (int at = 0; at < codes.length(); at++) {
            due(codes.charAt(at) - '0', "codeAt", at);
        }
        due(BAD, "codeAt", codes.length());
    }

    void partnersAre(int... partners) {
        for (int at = 0; at < partners.length; at++) {
            due(partners[at], "partner", at);
        }
        due(BAD, "partner", partners.length);
    }

    void spanned(int at, int kind, int around, int depth) {
        due(around, "around", at, kind);
        due(depth, "depth", at, kind);
    }

    void loose(int from, int length, int kind, int open, int close) {
        due(open, "looseOpen", from, length, kind);
        due(close, "looseClose", from, length, kind);
    }
}
