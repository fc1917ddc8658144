import java.util.ArrayList;
import java.util.Arrays;
import java.util.List;

/** Promise 12: each sentence of it has a test of its own. */
public final class RefusalsTest {
    private static final int BAD = Edges.BAD;
    private static final int FULL = Edges.FULL;
    private static final int NONE = Edges.NONE;
    private static final int LEAST = Edges.LEAST;
    private static final int GREATEST = Edges.GREATEST;
    private static final int LIMIT = Edges.LIMIT;

    private static final String[] TEXTS = {
        "", "0", "1", "4", "14", "41", "123456", "2041502", "1".repeat(30) + "4".repeat(29), Edges.FULL_TEXT};

    private static final Check CHECK = new Check("RefusalsTest");

    /** A call that is refused, or finds nothing, and its answer. */
    private record Refused(int answer, String method, int... arguments) {
    }

    public static void main(String[] args) {
        partnerIsBadBeforeNone();
        aroundIsBadBeforeNone();
        for (String codes : TEXTS) {
            aWrongNumberChangesNothing(codes);
            whatIsNotThereChangesNothing(codes);
        }
        theReachedLimitChangesNothing();
        aRowOfRefusalsChangesNothing();
        CHECK.finish();
    }

    // "partner, around: BAD is tested before NONE."

    private static void partnerIsBadBeforeNone() {
        String[] withoutPairs = {"", "0", "1", "41", "0".repeat(LIMIT)};
        for (String codes : withoutPairs) {
            Subject x = new Subject(CHECK, codes);
            for (int at : Edges.outside(0, codes.length() - 1)) {
                x.due(BAD, "partner", at);
            }
            for (int at = 0; at < codes.length(); at++) {
                x.due(NONE, "partner", at);
            }
        }
    }

    private static void aroundIsBadBeforeNone() {
        String[] withoutPairs = {"", "0", "1", "41", "0".repeat(LIMIT)};
        for (String codes : withoutPairs) {
            Subject x = new Subject(CHECK, codes);
            for (int at : Edges.outside(0, codes.length() - 1)) {
                x.due(BAD, "around", at, 1);
                x.due(BAD, "around", at, 0);
                x.due(BAD, "around", at, 4);
            }
            Subject y = new Subject(CHECK, codes);
            for (int at = 0; at < codes.length(); at++) {
                x.due(NONE, "around", at, 3);
                y.due(BAD, "around", at, 0);
                y.due(BAD, "around", at, 4);
                y.due(BAD, "around", at, LEAST);
                y.due(BAD, "around", at, GREATEST);
            }
        }
    }

    // "A call that is refused, because a number is not as said there, ... changes nothing."

    private static void aWrongNumberChangesNothing(String codes) {
        int length = codes.length();
        List<Refused> calls = new ArrayList<>();
        for (int at : Edges.outside(0, length)) {
            calls.add(new Refused(length == LIMIT ? FULL : BAD, "insert", at, 1));
            calls.add(new Refused(BAD, "erase", at, 0));
            calls.add(new Refused(BAD, "erase", 0, at));
            calls.add(new Refused(BAD, "erase", length, at));
            calls.add(new Refused(BAD, "move", at, 0, 0));
            calls.add(new Refused(BAD, "move", 0, at, 0));
            calls.add(new Refused(BAD, "move", 0, 0, at));
            calls.add(new Refused(BAD, "mirror", at, 0));
            calls.add(new Refused(BAD, "mirror", 0, at));
            calls.add(new Refused(BAD, "codeAt", at));
            calls.add(new Refused(BAD, "partner", at));
            calls.add(new Refused(BAD, "around", at, 1));
            calls.add(new Refused(BAD, "depth", at, 1));
            calls.add(new Refused(BAD, "looseOpen", 0, at, 1));
            calls.add(new Refused(BAD, "looseClose", at, 0, 1));
        }
        calls.add(new Refused(BAD, "move", 0, length / 2, length - length / 2 + 1));
        for (int code : Edges.outside(0, 6)) {
            calls.add(new Refused(length == LIMIT ? FULL : BAD, "insert", 0, code));
        }
        for (int kind : Edges.outside(1, 3)) {
            calls.add(new Refused(BAD, "around", 0, kind));
            calls.add(new Refused(BAD, "depth", 0, kind));
            calls.add(new Refused(BAD, "looseOpen", 0, length, kind));
            calls.add(new Refused(BAD, "looseClose", 0, length, kind));
        }
        eachChangesNothing(codes, calls);
    }

    // "... something is not there, ..."

    private static void whatIsNotThereChangesNothing(String codes) {
        List<Refused> calls = new ArrayList<>();
        TextModel model = new TextModel();
        for (int at = 0; at < codes.length(); at++) {
            model.insert(at, codes.charAt(at) - '0');
        }
        for (int at = 0; at <= codes.length(); at++) {
            calls.add(new Refused(model.partner(at), "partner", at));
            calls.add(new Refused(model.around(at, 1), "around", at, 1));
            calls.add(new Refused(model.around(at, 3), "around", at, 3));
        }
        calls.removeIf(call -> call.answer >= 0);
        eachChangesNothing(codes, calls);
    }

    // "... or a limit is reached, changes nothing."

    private static void theReachedLimitChangesNothing() {
        List<Refused> calls = new ArrayList<>();
        for (int code = 0; code <= 6; code++) {
            calls.add(new Refused(FULL, "insert", 0, code));
            calls.add(new Refused(FULL, "insert", LIMIT / 2, code));
            calls.add(new Refused(FULL, "insert", LIMIT, code));
        }
        eachChangesNothing(Edges.FULL_TEXT, calls);
        eachChangesNothing("1".repeat(30) + "4".repeat(30), calls);
    }

    private static void aRowOfRefusalsChangesNothing() {
        Subject x = new Subject(CHECK, "1204");
        for (int at : Edges.outside(0, 4)) {
            x.due(BAD, "insert", at, 1);
            x.due(BAD, "erase", at, 1);
            x.due(BAD, "move", 0, 1, at);
            x.due(BAD, "mirror", 0, at);
        }
        x.textIs("1204");
        x.partnersAre(3, NONE, NONE, 0);
    }

    private static void eachChangesNothing(String codes, List<Refused> calls) {
        for (int kind = 1; kind <= 3; kind++) {
            List<Integer> before = portrait(new Subject(CHECK, codes), codes.length(), kind);
            for (Refused call : calls) {
                Subject x = new Subject(CHECK, codes);
                x.due(call.answer, call.method, call.arguments);
                boolean isSame = portrait(x, codes.length(), kind).equals(before);
                String name = call.method + Arrays.toString(call.arguments);
                CHECK.yes("\"" + codes + "\" is the same after " + name, isSame);
            }
        }
    }

    /** What an object can tell of its state: with all three kinds it would be too many calls for one object. */
    private static List<Integer> portrait(Subject x, int length, int kind) {
        List<Integer> answers = new ArrayList<>();
        answers.add(x.call("erase", 0, 0));
        for (int at = 0; at <= length; at++) {
            answers.add(x.call("codeAt", at));
            answers.add(x.call("partner", at));
            answers.add(x.call("around", at, kind));
            answers.add(x.call("depth", at, kind));
            answers.add(x.call("looseOpen", 0, at, kind));
            answers.add(x.call("looseClose", at, length - at, kind));
        }
        answers.add(x.call("mirror", 0, length));
        for (int at = 0; at <= length; at++) {
            answers.add(x.call("codeAt", at));
        }
        return answers;
    }
}
