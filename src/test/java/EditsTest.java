/** Promises 1 to 5: each sentence that names a boundary case has a test of its own. Stretches are in StretchTest. */
public final class EditsTest {
    private static final int BAD = Edges.BAD;
    private static final int FULL = Edges.FULL;
    private static final int NONE = Edges.NONE;
    private static final int LEAST = Edges.LEAST;
    private static final int GREATEST = Edges.GREATEST;
    private static final int LIMIT = Edges.LIMIT;

    private static final Check CHECK = new Check("EditsTest");

    public static void main(String[] args) {
        theNewTextIsEmpty();
        aNewObjectForgetsTheOthers();
        insertBeforeAPosition();
        insertAtTheEnd();
        insertOutsideTheText();
        insertOfAWrongCode();
        insertOfTwoWrongNumbers();
        insertIsFullAt60();
        insertIsFullBeforeItIsBad();
        insertAfterFull();
        eraseAllAndNothing();
        eraseBeyondTheText();
        eraseFromTheFullText();
        moveToEveryPlace();
        moveTheWholeText();
        moveNothing();
        moveToOutside();
        moveToWhereASumWouldWrap();
        moveOfTwoWrongNumbers();
        moveInTheFullText();
        mirrorAllAndNothing();
        mirrorBeyondTheText();
        mirrorTheFullText();
        CHECK.finish();
    }

    // Promise 1: "The empty text."

    private static void theNewTextIsEmpty() {
        Subject x = new Subject(CHECK, "");
        x.textIs("");
        x.partnersAre();
        x.spanned(0, 1, BAD, BAD);
        x.due(0, "erase", 0, 0);
        x.due(BAD, "erase", 0, 1);
        x.due(0, "move", 0, 0, 0);
        x.due(BAD, "move", 0, 0, 1);
        x.due(0, "mirror", 0, 0);
        x.due(BAD, "mirror", 0, 1);
        for (int kind = 1; kind <= 3; kind++) {
            x.loose(0, 0, kind, 0, 0);
            x.loose(0, 1, kind, BAD, BAD);
        }
        x.due(BAD, "insert", 1, 0);
        x.due(1, "insert", 0, 0);
    }

    private static void aNewObjectForgetsTheOthers() {
        Subject first = new Subject(CHECK, Edges.FULL_TEXT);
        Subject second = new Subject(CHECK, "");
        second.textIs("");
        second.due(1, "insert", 0, 1);
        second.due(NONE, "partner", 0);
        first.textIs(Edges.FULL_TEXT);
    }

    // Promise 2: "Puts a character before position at (at the end if at is the length)."

    private static void insertBeforeAPosition() {
        int[] lengths = {0, 1, 2, 31, 32, 58, 59};
        for (int length : lengths) {
            String codes = Edges.scattered(length);
            for (int at = 0; at <= length; at++) {
                Subject x = new Subject(CHECK, codes);
                x.due(length + 1, "insert", at, 5);
                x.textIs(codes.substring(0, at) + 5 + codes.substring(at));
            }
        }
    }

    private static void insertAtTheEnd() {
        Subject x = new Subject(CHECK, "");
        for (int length = 0; length < LIMIT; length++) {
            x.due(BAD, "insert", length + 1, 6);
            x.due(length + 1, "insert", length, 6);
        }
        x.textIs("6".repeat(LIMIT));
    }

    // "at outside 0 .. length or code outside 0..6: BAD."

    private static void insertOutsideTheText() {
        int[] lengths = {0, 1, 2, 31, 32, 59};
        for (int length : lengths) {
            String codes = Edges.scattered(length);
            Subject x = new Subject(CHECK, codes);
            for (int at : Edges.outside(0, length)) {
                x.due(BAD, "insert", at, 0);
                x.due(BAD, "insert", at, 6);
            }
            x.textIs(codes);
        }
    }

    private static void insertOfAWrongCode() {
        int[] lengths = {0, 1, 2, 59};
        for (int length : lengths) {
            String codes = Edges.scattered(length);
            Subject x = new Subject(CHECK, codes);
            for (int code : Edges.outside(0, 6)) {
                x.due(BAD, "insert", 0, code);
                x.due(BAD, "insert", length, code);
            }
            x.textIs(codes);
        }
    }

    private static void insertOfTwoWrongNumbers() {
        String codes = Edges.scattered(LIMIT - 1);
        Subject x = new Subject(CHECK, codes);
        int[] places = {LEAST, -1, LIMIT, GREATEST};
        int[] wrongCodes = {LEAST, -1, 7, GREATEST};
        for (int at : places) {
            for (int code : wrongCodes) {
                x.due(BAD, "insert", at, code);
            }
        }
        x.textIs(codes);
    }

    // "Tested in this order: 60 characters are there: FULL; at outside 0 .. length or code outside 0..6: BAD."

    private static void insertIsFullAt60() {
        Subject x = new Subject(CHECK, Edges.scattered(LIMIT - 1));
        x.due(BAD, "insert", LIMIT, 1);
        x.due(LIMIT, "insert", LIMIT - 1, 1);
        for (int at = 0; at <= LIMIT; at++) {
            x.due(FULL, "insert", at, at % 7);
        }
        x.textIs(Edges.scattered(LIMIT - 1) + 1);
    }

    private static void insertIsFullBeforeItIsBad() {
        Subject places = new Subject(CHECK, Edges.FULL_TEXT);
        for (int at : Edges.outside(0, LIMIT)) {
            places.due(FULL, "insert", at, 0);
        }
        places.textIs(Edges.FULL_TEXT);

        Subject codes = new Subject(CHECK, Edges.FULL_TEXT);
        for (int code : Edges.outside(0, 6)) {
            codes.due(FULL, "insert", 0, code);
            codes.due(FULL, "insert", LIMIT + 1, code);
            codes.due(FULL, "insert", code, code);
        }
        codes.textIs(Edges.FULL_TEXT);
    }

    private static void insertAfterFull() {
        Subject x = new Subject(CHECK, Edges.FULL_TEXT);
        x.due(LIMIT, "erase", LIMIT, 0);
        x.due(LIMIT, "move", 0, 1, 0);
        x.due(LIMIT, "mirror", 0, 0);
        x.due(FULL, "insert", 0, 0);
        x.due(LIMIT - 1, "erase", 0, 1);
        x.due(BAD, "insert", LIMIT, 0);
        x.due(BAD, "insert", 0, 7);
        x.due(LIMIT, "insert", LIMIT - 1, 3);
        x.due(FULL, "insert", LIMIT, 0);
        x.textIs(Edges.FULL_TEXT.substring(1) + 3);
    }

    // Promise 3: "Takes a stretch out. Not a stretch of the text: BAD. Else answers the new length."

    private static void eraseAllAndNothing() {
        int[] lengths = {0, 1, 2, 59, LIMIT};
        for (int length : lengths) {
            Subject x = new Subject(CHECK, Edges.scattered(length));
            x.due(length, "erase", 0, 0);
            x.due(length, "erase", length, 0);
            x.textIs(Edges.scattered(length));
            x.due(0, "erase", 0, length);
            x.textIs("");
            x.due(0, "erase", 0, 0);
            x.due(BAD, "erase", 0, 1);
            x.due(1, "insert", 0, 1);
            x.textIs("1");
        }
    }

    private static void eraseBeyondTheText() {
        Subject x = new Subject(CHECK, "1204");
        for (int length : Edges.outside(0, 4)) {
            x.due(BAD, "erase", 0, length);
        }
        for (int from : Edges.outside(0, 4)) {
            x.due(BAD, "erase", from, 0);
        }
        x.due(BAD, "erase", 4, 1);
        x.due(BAD, "erase", 3, 2);
        x.textIs("1204");
        x.due(3, "erase", 3, 1);
        x.due(BAD, "erase", 3, 1);
        x.textIs("120");
        x.due(NONE, "partner", 0);
    }

    private static void eraseFromTheFullText() {
        for (int at = 0; at < LIMIT; at++) {
            Subject x = new Subject(CHECK, Edges.FULL_TEXT);
            x.due(LIMIT - 1, "erase", at, 1);
            x.textIs(Edges.FULL_TEXT.substring(0, at) + Edges.FULL_TEXT.substring(at + 1));
        }
        Subject first = new Subject(CHECK, Edges.FULL_TEXT);
        Subject last = new Subject(CHECK, Edges.FULL_TEXT);
        for (int left = LIMIT - 1; left >= 0; left--) {
            first.due(left, "erase", 0, 1);
            last.due(left, "erase", left, 1);
        }
        first.due(BAD, "erase", 0, 1);
        last.due(BAD, "erase", 0, 1);
    }

    // Promise 4: "puts it back into the rest so that its first character has position to"

    private static void moveToEveryPlace() {
        String codes = Edges.scattered(6);
        for (int from = 0; from <= 6; from++) {
            for (int length = 0; length <= 6 - from; length++) {
                for (int to = -2; to <= 8; to++) {
                    moves(codes, from, length, to);
                }
            }
        }
    }

    private static void moves(String codes, int from, int length, int to) {
        Subject x = new Subject(CHECK, codes);
        if (to < 0 || to > codes.length() - length) {
            x.due(BAD, "move", from, length, to);
            x.textIs(codes);
            return;
        }
        String rest = codes.substring(0, from) + codes.substring(from + length);
        x.due(codes.length(), "move", from, length, to);
        x.textIs(rest.substring(0, to) + codes.substring(from, from + length) + rest.substring(to));
    }

    // "to outside 0 .. (length of the text) - length: BAD"

    private static void moveTheWholeText() {
        int[] lengths = {0, 1, 2, 59, LIMIT};
        for (int length : lengths) {
            Subject x = new Subject(CHECK, Edges.scattered(length));
            x.due(length, "move", 0, length, 0);
            for (int to : Edges.outside(0, 0)) {
                x.due(BAD, "move", 0, length, to);
            }
            x.textIs(Edges.scattered(length));
        }
    }

    private static void moveNothing() {
        int[] lengths = {0, 1, 2, 59, LIMIT};
        for (int length : lengths) {
            Subject x = new Subject(CHECK, Edges.scattered(length));
            for (int to = 0; to <= length; to++) {
                x.due(length, "move", 0, 0, to);
                x.due(length, "move", length, 0, to);
            }
            for (int to : Edges.outside(0, length)) {
                x.due(BAD, "move", 0, 0, to);
                x.due(BAD, "move", length, 0, to);
            }
            x.textIs(Edges.scattered(length));
        }
    }

    private static void moveToOutside() {
        int[] lengths = {1, 2, 59, LIMIT};
        for (int length : lengths) {
            Subject x = new Subject(CHECK, Edges.scattered(length));
            for (int to : Edges.outside(0, length - 1)) {
                x.due(BAD, "move", 0, 1, to);
                x.due(BAD, "move", length - 1, 1, to);
            }
            x.textIs(Edges.scattered(length));
        }
    }

    private static void moveToWhereASumWouldWrap() {
        Subject x = new Subject(CHECK, Edges.FULL_TEXT);
        for (int length = 0; length <= LIMIT; length++) {
            x.due(BAD, "move", 0, length, GREATEST);
            x.due(BAD, "move", 0, length, GREATEST - length);
            x.due(BAD, "move", LIMIT - length, length, GREATEST - length + 1);
        }
        x.textIs(Edges.FULL_TEXT);
    }

    // "Tested in this order: not a stretch of the text: BAD; to outside 0 .. (length of the text) - length: BAD."

    private static void moveOfTwoWrongNumbers() {
        int[][] noStretches = {
            {-1, 1}, {0, 5}, {4, 1}, {5, 0}, {0, -1}, {0, LEAST}, {LEAST, 0}, {LEAST, LEAST}, {1, GREATEST},
            {GREATEST, 1}, {GREATEST, GREATEST}, {LEAST, GREATEST}, {GREATEST, LEAST}};
        int[] places = {LEAST, -2, -1, 0, 1, 4, 5, 6, GREATEST - 4, GREATEST};
        Subject x = new Subject(CHECK, "1204");
        for (int[] stretch : noStretches) {
            for (int to : places) {
                x.due(BAD, "move", stretch[0], stretch[1], to);
            }
        }
        x.textIs("1204");
    }

    private static void moveInTheFullText() {
        int[] edges = {0, 1, 2, 29, 30, 31, 32, 33, 58, 59, 60};
        for (int from : edges) {
            for (int length : edges) {
                for (int to = -1; to <= LIMIT + 1 && from + length <= LIMIT; to++) {
                    moves(Edges.FULL_TEXT, from, length, to);
                }
            }
        }
    }

    // Promise 5: "Mirrors a stretch. Not a stretch of the text: BAD. Else answers the length of the text."

    private static void mirrorAllAndNothing() {
        Subject empty = new Subject(CHECK, "");
        empty.due(0, "mirror", 0, 0);
        empty.textIs("");

        Subject x = new Subject(CHECK, "0126");
        for (int from = 0; from <= 4; from++) {
            x.due(4, "mirror", from, 0);
        }
        x.textIs("0126");
        x.due(4, "mirror", 0, 4);
        x.textIs("3540");
        x.due(4, "mirror", 0, 1);
        x.textIs("6540");
        x.due(4, "mirror", 3, 1);
        x.textIs("6540");
        x.due(4, "mirror", 1, 3);
        x.textIs("6012");
    }

    private static void mirrorBeyondTheText() {
        Subject x = new Subject(CHECK, "1204");
        for (int length : Edges.outside(0, 4)) {
            x.due(BAD, "mirror", 0, length);
        }
        for (int from : Edges.outside(0, 4)) {
            x.due(BAD, "mirror", from, 0);
        }
        x.due(BAD, "mirror", 4, 1);
        x.due(BAD, "mirror", 3, 2);
        x.textIs("1204");
        x.due(3, "partner", 0);
    }

    private static void mirrorTheFullText() {
        Subject x = new Subject(CHECK, "1".repeat(30) + "0".repeat(29) + "5");
        x.due(LIMIT, "mirror", 0, LIMIT);
        x.textIs("2" + "0".repeat(29) + "4".repeat(30));
        x.due(LIMIT, "mirror", 1, LIMIT - 1);
        x.textIs("2" + "1".repeat(30) + "0".repeat(29));
        x.due(LIMIT, "mirror", LIMIT - 1, 1);
        x.due(LIMIT, "mirror", 0, 1);
        x.textIs("5" + "1".repeat(30) + "0".repeat(29));
    }
}
