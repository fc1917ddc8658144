/** "What it is" and "Terms", but for the stretches: each sentence that names a boundary case has a test of its own. */
public final class TermsTest {
    private static final int BAD = Edges.BAD;
    private static final int FULL = Edges.FULL;
    private static final int NONE = Edges.NONE;
    private static final int LIMIT = Edges.LIMIT;

    private static final Check CHECK = new Check("TermsTest");

    public static void main(String[] args) {
        usedFor512Calls();
        upTo60Characters();
        numberedFrom0();
        codesFrom0To6();
        whichCodesOpenAndClose();
        kindsArePairedOnTheirOwn();
        closingStandsAfterOpening();
        asManyOpeningAsClosingBetween();
        neverMoreClosingOnTheWay();
        inNoPairIsLoose();
        readAlone();
        mirroredCodes();
        mirroredOrder();
        CHECK.finish();
    }

    // "An object is used for at most 512 calls after it has been made"

    private static void usedFor512Calls() {
        last(4, "insert", 3, 6);
        last(BAD, "insert", 4, 6);
        last(0, "erase", 0, 3);
        last(3, "move", 0, 1, 2);
        last(3, "mirror", 0, 2);
        last(4, "codeAt", 2);
        last(2, "partner", 0);
        last(0, "around", 1, 1);
        last(1, "depth", 1, 1);
        last(1, "looseOpen", 0, 2, 1);
        last(1, "looseClose", 1, 2, 1);

        Subject x = new Subject(CHECK, Edges.FULL_TEXT);
        while (x.callsMade() < Subject.CALLS) {
            x.due(FULL, "insert", 0, 0);
        }
    }

    private static void last(int want, String method, int... arguments) {
        Subject x = new Subject(CHECK, "104");
        while (x.callsMade() < Subject.CALLS - 1) {
            x.due(4, "insert", 1, 2);
            x.due(3, "erase", 1, 1);
        }
        x.due(want, method, arguments);
    }

    // "A text has up to 60 characters, numbered from 0"

    private static void upTo60Characters() {
        for (int code = 0; code <= 6; code++) {
            Subject x = new Subject(CHECK, "");
            for (int length = 1; length <= LIMIT; length++) {
                x.due(length, "insert", 0, code);
            }
            x.due(FULL, "insert", 0, code);
            x.textIs(String.valueOf(code).repeat(LIMIT));
        }
    }

    private static void numberedFrom0() {
        Subject one = new Subject(CHECK, "5");
        one.due(BAD, "codeAt", -1);
        one.due(5, "codeAt", 0);
        one.due(BAD, "codeAt", 1);

        Subject full = new Subject(CHECK, "2" + "0".repeat(LIMIT - 2) + "5");
        full.due(BAD, "codeAt", -1);
        full.due(2, "codeAt", 0);
        full.due(5, "codeAt", LIMIT - 1);
        full.due(BAD, "codeAt", LIMIT);
        full.due(LIMIT - 1, "partner", 0);
        full.due(0, "partner", LIMIT - 1);
        full.due(0, "around", 1, 2);
        full.due(0, "around", LIMIT - 2, 2);
    }

    // "each is a code from 0 to 6"

    private static void codesFrom0To6() {
        for (int code = 0; code <= 6; code++) {
            Subject x = new Subject(CHECK, "");
            x.due(1, "insert", 0, code);
            x.textIs(String.valueOf(code));
        }
        Subject x = new Subject(CHECK, "");
        for (int code : Edges.outside(0, 6)) {
            x.due(BAD, "insert", 0, code);
        }
        x.textIs("");
    }

    // "0 is a plain character; 1, 2, 3 are opening brackets and 4, 5, 6 closing brackets of the KINDS 1, 2, 3"

    private static void whichCodesOpenAndClose() {
        for (int first = 0; first <= 6; first++) {
            Subject alone = new Subject(CHECK, String.valueOf(first));
            for (int kind = 1; kind <= 3; kind++) {
                alone.loose(0, 1, kind, first == kind ? 1 : 0, first == 3 + kind ? 1 : 0);
            }
            for (int second = 0; second <= 6; second++) {
                boolean isPair = first >= 1 && first <= 3 && second == 3 + first;
                Subject two = new Subject(CHECK, "" + first + second);
                two.due(isPair ? 1 : NONE, "partner", 0);
                two.due(isPair ? 0 : NONE, "partner", 1);
            }
        }
    }

    // "The three kinds are paired each on its own, without regard to the others (so pairs of different kinds may
    // cross)"

    private static void kindsArePairedOnTheirOwn() {
        new Subject(CHECK, "1245").partnersAre(2, 3, 0, 1);
        new Subject(CHECK, "123456").partnersAre(3, 4, 5, 0, 1, 2);
        new Subject(CHECK, "1224").partnersAre(3, NONE, NONE, 0);
        new Subject(CHECK, "3556").partnersAre(3, NONE, NONE, 0);
        new Subject(CHECK, "3146").partnersAre(3, 2, 1, 0);
        new Subject(CHECK, "5142").partnersAre(NONE, 2, 1, NONE);
    }

    // "an opening bracket of kind k at i and a closing bracket of kind k at j > i"

    private static void closingStandsAfterOpening() {
        for (int kind = 1; kind <= 3; kind++) {
            int close = 3 + kind;
            new Subject(CHECK, "" + kind + close).partnersAre(1, 0);
            new Subject(CHECK, "" + close + kind).partnersAre(NONE, NONE);
            new Subject(CHECK, "" + close + 0 + kind).partnersAre(NONE, NONE, NONE);
        }
        Subject ends = new Subject(CHECK, "4" + "0".repeat(LIMIT - 2) + "1");
        ends.due(NONE, "partner", 0);
        ends.due(NONE, "partner", LIMIT - 1);
    }

    // "a pair iff among the brackets of kind k strictly between i and j there are as many opening as closing ones"

    private static void asManyOpeningAsClosingBetween() {
        new Subject(CHECK, "114").partnersAre(NONE, 2, 1);
        new Subject(CHECK, "144").partnersAre(1, 0, NONE);
        new Subject(CHECK, "1144").partnersAre(3, 2, 1, 0);
        new Subject(CHECK, "2252555").partnersAre(5, 2, 1, 4, 3, 0, NONE);
        new Subject(CHECK, "2225255").partnersAre(NONE, 6, 3, 2, 5, 4, 1);

        Subject deep = new Subject(CHECK, "3".repeat(30) + "6".repeat(30));
        for (int at = 0; at < LIMIT; at++) {
            deep.due(LIMIT - 1 - at, "partner", at);
        }
    }

    // "counted from i + 1 on up to any place before j, there were never more closing than opening ones"

    private static void neverMoreClosingOnTheWay() {
        new Subject(CHECK, "1414").partnersAre(1, 0, 3, 2);
        new Subject(CHECK, "104014").partnersAre(2, NONE, 0, NONE, 5, 4);
        new Subject(CHECK, "114414").partnersAre(3, 2, 1, 0, 5, 4);
        new Subject(CHECK, "114144").partnersAre(5, 2, 1, 4, 3, 0);

        Subject wide = new Subject(CHECK, "25".repeat(30));
        for (int at = 0; at < LIMIT; at += 2) {
            wide.due(at + 1, "partner", at);
            wide.due(at, "partner", at + 1);
        }
    }

    // "A bracket of kind k that is in no pair is loose"

    private static void inNoPairIsLoose() {
        for (int kind = 1; kind <= 3; kind++) {
            Subject opening = new Subject(CHECK, String.valueOf(kind).repeat(LIMIT));
            Subject closing = new Subject(CHECK, String.valueOf(3 + kind).repeat(LIMIT));
            for (int at = 0; at < LIMIT; at++) {
                opening.due(NONE, "partner", at);
                closing.due(NONE, "partner", at);
            }
            opening.loose(0, LIMIT, kind, LIMIT, 0);
            closing.loose(0, LIMIT, kind, 0, LIMIT);
        }
        Subject mixed = new Subject(CHECK, "41140");
        mixed.partnersAre(NONE, NONE, 3, 2, NONE);
        mixed.loose(0, 5, 1, 1, 1);
    }

    // "A stretch may be read ALONE, as if it were the whole text"

    private static void readAlone() {
        Subject x = new Subject(CHECK, "1004");
        x.loose(0, 4, 1, 0, 0);
        x.loose(0, 3, 1, 1, 0);
        x.loose(1, 3, 1, 0, 1);
        x.loose(1, 2, 1, 0, 0);
        x.loose(0, 1, 1, 1, 0);
        x.loose(3, 1, 1, 0, 1);
        x.loose(0, 0, 1, 0, 0);
        x.loose(4, 0, 1, 0, 0);

        Subject deep = new Subject(CHECK, "1".repeat(30) + "4".repeat(30));
        for (int cut = 0; cut <= LIMIT; cut++) {
            int across = Math.min(cut, LIMIT - cut);
            deep.loose(0, cut, 1, across, 0);
            deep.loose(cut, LIMIT - cut, 1, 0, across);
        }
    }

    // "every opening bracket in it becomes the closing one of its kind and every closing one the opening one"

    private static void mirroredCodes() {
        String codes = "0123456";
        String mirrored = "0456123";
        for (int at = 0; at < codes.length(); at++) {
            Subject x = new Subject(CHECK, codes);
            x.due(codes.length(), "mirror", at, 1);
            x.textIs(codes.substring(0, at) + mirrored.charAt(at) + codes.substring(at + 1));
        }
    }

    // "its characters are put in the opposite order"

    private static void mirroredOrder() {
        mirrors("", "");
        mirrors("0", "0");
        mirrors("01", "40");
        mirrors("012", "540");
        mirrors("6012", "5403");
        mirrors("14", "14");
        mirrors("41", "41");
        mirrors("0".repeat(LIMIT - 1) + "3", "6" + "0".repeat(LIMIT - 1));
        mirrors("12".repeat(30), "54".repeat(30));
    }

    private static void mirrors(String before, String after) {
        Subject x = new Subject(CHECK, before);
        x.due(before.length(), "mirror", 0, before.length());
        x.textIs(after);
    }
}
