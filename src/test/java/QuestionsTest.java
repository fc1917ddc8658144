/** Promises 6 to 11: each sentence that names a boundary case has a test of its own. Stretches are in StretchTest. */
public final class QuestionsTest {
    private static final int BAD = Edges.BAD;
    private static final int NONE = Edges.NONE;
    private static final int LEAST = Edges.LEAST;
    private static final int GREATEST = Edges.GREATEST;
    private static final int LIMIT = Edges.LIMIT;

    private static final int[] TEXT_LENGTHS = {0, 1, 2, 31, 32, 59, LIMIT};

    private static final Check CHECK = new Check("QuestionsTest");

    public static void main(String[] args) {
        codeAtInside();
        codeAtOutside();
        partnerOfALooseBracket();
        partnerOfAPlainCharacter();
        partnerOfTheFirstAndTheLast();
        partnerOutside();
        aroundIsStrict();
        aroundIsTheInnermost();
        aroundIsNone();
        aroundOutside();
        aroundOfAWrongKind();
        depthIsStrict();
        depthOfNoneAndOfMost();
        depthOutside();
        depthOfAWrongKind();
        looseInNothing();
        looseInTheFullText();
        looseOfAWrongKind();
        looseOfAWrongKindAndNoStretch();
        CHECK.finish();
    }

    // Promise 6: "The code of a character; BAD if at is outside 0 .. length - 1."

    private static void codeAtInside() {
        for (int length : TEXT_LENGTHS) {
            String codes = Edges.scattered(length);
            Subject x = new Subject(CHECK, codes);
            for (int at = 0; at < length; at++) {
                x.due(codes.charAt(at) - '0', "codeAt", at);
            }
        }
    }

    private static void codeAtOutside() {
        for (int length : TEXT_LENGTHS) {
            Subject x = new Subject(CHECK, Edges.scattered(length));
            for (int at : Edges.outside(0, length - 1)) {
                x.due(BAD, "codeAt", at);
            }
        }
        Subject shrunk = new Subject(CHECK, "1234");
        shrunk.due(3, "erase", 3, 1);
        shrunk.due(3, "codeAt", 2);
        shrunk.due(BAD, "codeAt", 3);
        shrunk.due(0, "erase", 0, 3);
        shrunk.due(BAD, "codeAt", 0);
    }

    // Promise 7: "NONE if it is loose or a plain character; BAD if at is outside 0 .. length - 1."

    private static void partnerOfALooseBracket() {
        for (int code = 1; code <= 6; code++) {
            new Subject(CHECK, "" + code).partnersAre(NONE);
            new Subject(CHECK, "" + code + code).partnersAre(NONE, NONE);
        }
        Subject x = new Subject(CHECK, "4" + "1".repeat(30) + "4".repeat(29));
        x.due(NONE, "partner", 0);
        x.due(NONE, "partner", 1);
        x.due(LIMIT - 1, "partner", 2);
        x.due(2, "partner", LIMIT - 1);
    }

    private static void partnerOfAPlainCharacter() {
        new Subject(CHECK, "0").partnersAre(NONE);
        new Subject(CHECK, "104").partnersAre(2, NONE, 0);
        Subject x = new Subject(CHECK, "0".repeat(LIMIT));
        for (int at = 0; at < LIMIT; at++) {
            x.due(NONE, "partner", at);
        }
    }

    private static void partnerOfTheFirstAndTheLast() {
        for (int length = 2; length <= LIMIT; length++) {
            for (int kind = 1; kind <= 3; kind++) {
                Subject x = new Subject(CHECK, kind + "0".repeat(length - 2) + (3 + kind));
                x.due(length - 1, "partner", 0);
                x.due(0, "partner", length - 1);
                x.due(BAD, "partner", length);
                x.due(BAD, "partner", -1);
            }
        }
    }

    private static void partnerOutside() {
        for (int length : TEXT_LENGTHS) {
            Subject x = new Subject(CHECK, Edges.scattered(length));
            for (int at : Edges.outside(0, length - 1)) {
                x.due(BAD, "partner", at);
            }
        }
        Subject shrunk = new Subject(CHECK, "1004");
        shrunk.due(3, "erase", 3, 1);
        shrunk.due(NONE, "partner", 0);
        shrunk.due(BAD, "partner", 3);
    }

    // Promise 8: "of the pairs (i, j) of this kind with i < at < j the one with the greatest i"

    private static void aroundIsStrict() {
        for (int kind = 1; kind <= 3; kind++) {
            int close = 3 + kind;
            Subject x = new Subject(CHECK, "0" + kind + "0" + close + "0");
            x.due(NONE, "around", 0, kind);
            x.due(NONE, "around", 1, kind);
            x.due(1, "around", 2, kind);
            x.due(NONE, "around", 3, kind);
            x.due(NONE, "around", 4, kind);

            Subject nested = new Subject(CHECK, "" + kind + kind + close + close);
            nested.due(NONE, "around", 0, kind);
            nested.due(0, "around", 1, kind);
            nested.due(0, "around", 2, kind);
            nested.due(NONE, "around", 3, kind);
        }
    }

    private static void aroundIsTheInnermost() {
        Subject deep = new Subject(CHECK, "1".repeat(29) + "00" + "4".repeat(29));
        for (int at = 1; at <= 29; at++) {
            deep.due(at - 1, "around", at, 1);
            deep.due(at - 1, "around", LIMIT - 1 - at, 1);
        }
        Subject siblings = new Subject(CHECK, "10140404");
        siblings.due(0, "around", 1, 1);
        siblings.due(0, "around", 2, 1);
        siblings.due(0, "around", 3, 1);
        siblings.due(0, "around", 4, 1);
        siblings.due(NONE, "around", 5, 1);
        Subject looseInside = new Subject(CHECK, "111040");
        looseInside.due(2, "around", 3, 1);
        looseInside.due(NONE, "around", 2, 1);
    }

    // "NONE if there is none"

    private static void aroundIsNone() {
        for (int kind = 1; kind <= 3; kind++) {
            new Subject(CHECK, "0").due(NONE, "around", 0, kind);
            Subject opening = new Subject(CHECK, String.valueOf(kind).repeat(LIMIT));
            Subject closing = new Subject(CHECK, String.valueOf(3 + kind).repeat(LIMIT));
            int other = 1 + kind % 3;
            Subject ofAnotherKind = new Subject(CHECK, other + "0".repeat(LIMIT - 2) + (3 + other));
            for (int at = 0; at < LIMIT; at++) {
                opening.due(NONE, "around", at, kind);
                closing.due(NONE, "around", at, kind);
                ofAnotherKind.due(NONE, "around", at, kind);
            }
        }
        Subject first = new Subject(CHECK, "104");
        first.due(NONE, "around", 0, 1);
        first.due(NONE, "around", 2, 1);
    }

    // "BAD if at is outside 0 .. length - 1 or kind outside 1..3."

    private static void aroundOutside() {
        placesAreRefused("around");
    }

    private static void aroundOfAWrongKind() {
        Subject x = new Subject(CHECK, "1230456");
        x.due(0, "around", 3, 1);
        x.due(1, "around", 3, 2);
        x.due(2, "around", 3, 3);
        kindsAreRefused(x, "around");
    }

    // Promise 9: "The number of pairs (i, j) of a kind with i < at < j"

    private static void depthIsStrict() {
        for (int kind = 1; kind <= 3; kind++) {
            int close = 3 + kind;
            Subject x = new Subject(CHECK, "0" + kind + "0" + close + "0");
            x.due(0, "depth", 0, kind);
            x.due(0, "depth", 1, kind);
            x.due(1, "depth", 2, kind);
            x.due(0, "depth", 3, kind);
            x.due(0, "depth", 4, kind);

            Subject nested = new Subject(CHECK, "" + kind + kind + close + close);
            nested.due(0, "depth", 0, kind);
            nested.due(1, "depth", 1, kind);
            nested.due(1, "depth", 2, kind);
            nested.due(0, "depth", 3, kind);
        }
    }

    private static void depthOfNoneAndOfMost() {
        Subject one = new Subject(CHECK, "0");
        one.due(0, "depth", 0, 1);
        Subject deep = new Subject(CHECK, "3".repeat(29) + "00" + "6".repeat(29));
        for (int at = 0; at <= 29; at++) {
            deep.due(at, "depth", at, 3);
            deep.due(at, "depth", LIMIT - 1 - at, 3);
            deep.due(0, "depth", at, 2);
        }
        Subject loose = new Subject(CHECK, "6".repeat(30) + "3".repeat(30));
        for (int at = 0; at < LIMIT; at++) {
            loose.due(0, "depth", at, 3);
        }
    }

    // "BAD if at is outside 0 .. length - 1 or kind outside 1..3."

    private static void depthOutside() {
        placesAreRefused("depth");
    }

    private static void depthOfAWrongKind() {
        Subject x = new Subject(CHECK, "1230456");
        x.due(1, "depth", 3, 1);
        x.due(1, "depth", 3, 2);
        x.due(1, "depth", 3, 3);
        kindsAreRefused(x, "depth");
    }

    private static void placesAreRefused(String method) {
        for (int length : TEXT_LENGTHS) {
            for (int kind = 0; kind <= 4; kind++) {
                Subject x = new Subject(CHECK, Edges.scattered(length));
                for (int at : Edges.outside(0, length - 1)) {
                    x.due(BAD, method, at, kind);
                }
            }
        }
        Subject shrunk = new Subject(CHECK, "1004");
        shrunk.due(2, "erase", 1, 2);
        shrunk.due(BAD, method, 2, 1);
    }

    private static void kindsAreRefused(Subject x, String method) {
        for (int kind : Edges.outside(1, 3)) {
            x.due(BAD, method, 0, kind);
            x.due(BAD, method, 3, kind);
            x.due(BAD, method, 6, kind);
        }
    }

    // Promises 10 and 11: "The number of loose opening [closing] brackets of a kind in a stretch read alone"

    private static void looseInNothing() {
        for (int length : TEXT_LENGTHS) {
            for (int kind = 1; kind <= 3; kind++) {
                Subject x = new Subject(CHECK, Edges.scattered(length));
                for (int from = 0; from <= length; from++) {
                    x.loose(from, 0, kind, 0, 0);
                }
                x.loose(length + 1, 0, kind, BAD, BAD);
                x.loose(-1, 0, kind, BAD, BAD);
            }
        }
    }

    private static void looseInTheFullText() {
        for (int kind = 1; kind <= 3; kind++) {
            Subject apart = new Subject(CHECK, String.valueOf(3 + kind).repeat(30) + String.valueOf(kind).repeat(30));
            apart.loose(0, LIMIT, kind, 30, 30);
            apart.loose(1, LIMIT - 2, kind, 29, 29);
            apart.loose(29, 2, kind, 1, 1);
            apart.loose(0, 30, kind, 0, 30);
            apart.loose(30, 30, kind, 30, 0);
            apart.loose(LIMIT - 1, 1, kind, 1, 0);
            apart.loose(0, LIMIT + 1, kind, BAD, BAD);
            apart.loose(LIMIT, 1, kind, BAD, BAD);
            apart.loose(0, LIMIT, 1 + kind % 3, 0, 0);

            Subject paired = new Subject(CHECK, ("" + kind + (3 + kind)).repeat(30));
            paired.loose(0, LIMIT, kind, 0, 0);
            paired.loose(1, LIMIT - 1, kind, 0, 1);
            paired.loose(0, LIMIT - 1, kind, 1, 0);
            paired.loose(1, LIMIT - 2, kind, 1, 1);
        }
    }

    // "BAD if it is not a stretch of the text or kind is outside 1..3."

    private static void looseOfAWrongKind() {
        Subject x = new Subject(CHECK, "1230");
        x.loose(0, 4, 1, 1, 0);
        x.loose(0, 4, 2, 1, 0);
        x.loose(0, 4, 3, 1, 0);
        for (int kind : Edges.outside(1, 3)) {
            x.loose(0, 4, kind, BAD, BAD);
            x.loose(0, 0, kind, BAD, BAD);
            x.loose(4, 0, kind, BAD, BAD);
        }
        Subject empty = new Subject(CHECK, "");
        for (int kind : Edges.outside(1, 3)) {
            empty.loose(0, 0, kind, BAD, BAD);
        }
    }

    private static void looseOfAWrongKindAndNoStretch() {
        int[][] noStretches = {{-1, 1}, {0, 5}, {5, 0}, {0, -1}, {LEAST, LEAST}, {1, GREATEST}, {GREATEST, 1}};
        int[] kinds = {LEAST, -1, 0, 1, 3, 4, GREATEST};
        Subject x = new Subject(CHECK, "1230");
        for (int[] stretch : noStretches) {
            for (int kind : kinds) {
                x.loose(stretch[0], stretch[1], kind, BAD, BAD);
            }
        }
    }
}
