/**
 * Each promise by itself: ordinary inputs, the edges that the document names, and wrong inputs. A text
 * is written as its codes, so "1024" is an opening bracket, a plain character and two brackets more.
 */
public final class PromisesTest {
    private static final int BAD = -1;
    private static final int FULL = -2;
    private static final int NONE = -3;
    private static final int LEAST = Integer.MIN_VALUE;
    private static final int GREATEST = Integer.MAX_VALUE;

    private static final Check CHECK = new Check("PromisesTest");

    public static void main(String[] args) {
        theConstants();
        aNewObject();
        insertOrdinary();
        insertWrong();
        insertFull();
        eraseOrdinary();
        moveOrdinary();
        moveWrong();
        mirrorOrdinary();
        notAStretch();
        codeAtEverywhere();
        partnerOrdinary();
        partnerOfCrossingKinds();
        aroundAndDepth();
        aroundABracketOfTheSameKind();
        aroundAndDepthWrong();
        looseAlone();
        looseWrong();
        objectsAreApart();
        CHECK.finish();
    }

    private static void theConstants() {
        CHECK.due("BAD", BracketPairTree.BAD, BAD);
        CHECK.due("FULL", BracketPairTree.FULL, FULL);
        CHECK.due("NONE", BracketPairTree.NONE, NONE);
    }

    // Promise 1

    private static void aNewObject() {
        BracketPairTree x = new BracketPairTree();
        textIs("new", x, "");
        CHECK.due("new: codeAt(0)", x.codeAt(0), BAD);
        CHECK.due("new: partner(0)", x.partner(0), BAD);
        CHECK.due("new: around(0, 1)", x.around(0, 1), BAD);
        CHECK.due("new: depth(0, 1)", x.depth(0, 1), BAD);
        CHECK.due("new: erase(0, 0)", x.erase(0, 0), 0);
        CHECK.due("new: erase(0, 1)", x.erase(0, 1), BAD);
        CHECK.due("new: move(0, 0, 0)", x.move(0, 0, 0), 0);
        CHECK.due("new: move(0, 0, 1)", x.move(0, 0, 1), BAD);
        CHECK.due("new: mirror(0, 0)", x.mirror(0, 0), 0);
        CHECK.due("new: mirror(1, 0)", x.mirror(1, 0), BAD);
        CHECK.due("new: looseOpen(0, 0, 1)", x.looseOpen(0, 0, 1), 0);
        CHECK.due("new: looseClose(0, 0, 3)", x.looseClose(0, 0, 3), 0);
        CHECK.due("new: insert(1, 0)", x.insert(1, 0), BAD);
        CHECK.due("new: insert(0, 0)", x.insert(0, 0), 1);
    }

    // Promise 2

    private static void insertOrdinary() {
        BracketPairTree x = new BracketPairTree();
        CHECK.due("insert into the empty text", x.insert(0, 3), 1);
        CHECK.due("insert at the end", x.insert(1, 6), 2);
        CHECK.due("insert at the start", x.insert(0, 0), 3);
        CHECK.due("insert in the middle", x.insert(2, 5), 4);
        textIs("insert", x, "0356");
        for (int code = 0; code <= 6; code++) {
            BracketPairTree y = new BracketPairTree();
            CHECK.due("insert(0, " + code + ")", y.insert(0, code), 1);
            CHECK.due("the code that was inserted", y.codeAt(0), code);
        }
    }

    private static void insertWrong() {
        BracketPairTree x = text("142");
        int[] places = {-1, 4, LEAST, GREATEST};
        for (int at : places) {
            CHECK.due("insert(" + at + ", 1)", x.insert(at, 1), BAD);
        }
        int[] codes = {-1, 7, LEAST, GREATEST};
        for (int code : codes) {
            CHECK.due("insert(1, " + code + ")", x.insert(1, code), BAD);
        }
        textIs("refused insert", x, "142");
    }

    private static void insertFull() {
        String full = "123456".repeat(10);
        BracketPairTree x = text(full.substring(0, 59));
        CHECK.due("insert of the 60th at a wrong place", x.insert(60, 6), BAD);
        CHECK.due("insert of the 60th", x.insert(59, 6), 60);
        CHECK.due("insert of the 61st", x.insert(0, 1), FULL);
        CHECK.due("insert of the 61st at the end", x.insert(60, 1), FULL);
        CHECK.due("FULL goes before a wrong place", x.insert(-1, 1), FULL);
        CHECK.due("FULL goes before a wrong code", x.insert(0, 7), FULL);
        CHECK.due("FULL goes before both", x.insert(GREATEST, LEAST), FULL);
        textIs("refused insert into a full text", x, full);
        CHECK.due("erase from a full text", x.erase(59, 1), 59);
        CHECK.due("insert again", x.insert(0, 0), 60);
        textIs("full again", x, "0" + full.substring(0, 59));
    }

    // Promise 3

    private static void eraseOrdinary() {
        BracketPairTree x = text("0123456");
        CHECK.due("erase in the middle", x.erase(2, 3), 4);
        textIs("erase in the middle", x, "0156");
        CHECK.due("erase nothing", x.erase(1, 0), 4);
        CHECK.due("erase nothing at the end", x.erase(4, 0), 4);
        textIs("erase nothing", x, "0156");
        CHECK.due("erase the first", x.erase(0, 1), 3);
        textIs("erase the first", x, "156");
        CHECK.due("erase the last", x.erase(2, 1), 2);
        textIs("erase the last", x, "15");
        CHECK.due("erase all", x.erase(0, 2), 0);
        textIs("erase all", x, "");

        BracketPairTree y = text("1144");
        CHECK.due("erase a closing bracket", y.erase(3, 1), 3);
        CHECK.due("the outer one is loose now", y.partner(0), NONE);
        CHECK.due("nothing of it is counted", y.looseClose(0, 3, 1), 0);
        CHECK.due("the inner one is paired", y.partner(1), 2);
    }

    // Promise 4

    private static void moveOrdinary() {
        moved("0123456", 1, 2, 4, "0345126");
        moved("0123456", 1, 2, 5, "0345612");
        moved("0123456", 1, 2, 2, "0312456");
        moved("0123456", 1, 2, 1, "0123456");
        moved("0123456", 1, 2, 0, "1203456");
        moved("0123456", 4, 3, 0, "4560123");
        moved("0123456", 4, 3, 4, "0123456");
        moved("0123456", 0, 7, 0, "0123456");
        moved("0123456", 3, 0, 0, "0123456");
        moved("0123456", 3, 0, 7, "0123456");
        moved("0123456", 7, 0, 0, "0123456");

        BracketPairTree x = text("4100");
        CHECK.due("move a closing bracket behind its opening one", x.move(0, 1, 3), 4);
        CHECK.due("the pair of the moved one", x.partner(3), 0);
    }

    private static void moved(String before, int from, int length, int to, String after) {
        BracketPairTree x = text(before);
        String call = "move(" + from + ", " + length + ", " + to + ")";
        CHECK.due(call, x.move(from, length, to), before.length());
        textIs(call, x, after);
    }

    private static void moveWrong() {
        BracketPairTree x = text("01234");
        CHECK.due("move(1, 2, 4)", x.move(1, 2, 4), BAD);
        CHECK.due("move(1, 2, -1)", x.move(1, 2, -1), BAD);
        CHECK.due("move(0, 5, 1)", x.move(0, 5, 1), BAD);
        CHECK.due("move(2, 0, 6)", x.move(2, 0, 6), BAD);
        CHECK.due("move(1, 2, GREATEST)", x.move(1, 2, GREATEST), BAD);
        CHECK.due("move(1, 2, LEAST)", x.move(1, 2, LEAST), BAD);
        textIs("refused move", x, "01234");
    }

    // Promise 5

    private static void mirrorOrdinary() {
        mirrored("0123456", 0, 7, "3216540");
        mirrored("0123456", 1, 2, "0543456");
        mirrored("0123456", 4, 3, "0123321");
        mirrored("0123456", 2, 3, "0116556");
        mirrored("0123456", 3, 1, "0126456");
        mirrored("0123456", 0, 1, "0123456");
        mirrored("0123456", 3, 0, "0123456");
        mirrored("0123456", 7, 0, "0123456");

        BracketPairTree x = text("1004");
        CHECK.due("mirror a pair", x.mirror(0, 4), 4);
        CHECK.due("a mirrored pair is a pair", x.partner(0), 3);
        CHECK.due("mirror its second half", x.mirror(2, 2), 4);
        CHECK.due("now both are opening", x.looseOpen(0, 4, 1), 2);
    }

    private static void mirrored(String before, int from, int length, String after) {
        BracketPairTree x = text(before);
        String call = "mirror(" + from + ", " + length + ")";
        CHECK.due(call, x.mirror(from, length), before.length());
        textIs(call, x, after);
        CHECK.due(call + " again", x.mirror(from, length), before.length());
        textIs(call + " again", x, before);
    }

    // Promises 3, 4, 5, 10, 11 and 12: what is not a stretch of the text

    private static void notAStretch() {
        int[][] stretches = {
            {-1, 0}, {-1, 1}, {-1, 2}, {0, -1}, {2, -1}, {4, -1}, {0, 5}, {1, 4}, {3, 2}, {4, 1}, {5, 0}, {5, -1},
            {5, -5}, {GREATEST, 0}, {GREATEST, 1}, {1, GREATEST}, {GREATEST, GREATEST}, {LEAST, 0}, {0, LEAST},
            {LEAST, LEAST}, {LEAST, GREATEST}, {GREATEST, LEAST}, {-2, 4}, {4, GREATEST - 3}, {GREATEST - 3, 4}};
        BracketPairTree x = text("1253");
        for (int[] stretch : stretches) {
            int from = stretch[0];
            int length = stretch[1];
            String arguments = "(" + from + ", " + length + ")";
            CHECK.due("erase" + arguments, x.erase(from, length), BAD);
            CHECK.due("mirror" + arguments, x.mirror(from, length), BAD);
            CHECK.due("move to 0 of " + arguments, x.move(from, length, 0), BAD);
            CHECK.due("looseOpen of " + arguments, x.looseOpen(from, length, 1), BAD);
            CHECK.due("looseClose of " + arguments, x.looseClose(from, length, 1), BAD);
            textIs("refused " + arguments, x, "1253");
        }
        CHECK.due("the pair is still there", x.partner(1), 2);
    }

    // Promise 6

    private static void codeAtEverywhere() {
        BracketPairTree x = text("6543210");
        for (int at = 0; at < 7; at++) {
            CHECK.due("codeAt(" + at + ")", x.codeAt(at), 6 - at);
        }
        int[] places = {-1, 7, 59, 60, LEAST, GREATEST};
        for (int at : places) {
            CHECK.due("codeAt(" + at + ")", x.codeAt(at), BAD);
        }
        x.erase(3, 4);
        CHECK.due("codeAt what was erased", x.codeAt(3), BAD);
    }

    // Promises 7 and 12

    private static void partnerOrdinary() {
        partnersAre("", new int[] {});
        partnersAre("0", new int[] {NONE});
        partnersAre("1", new int[] {NONE});
        partnersAre("6", new int[] {NONE});
        partnersAre("14", new int[] {1, 0});
        partnersAre("41", new int[] {NONE, NONE});
        partnersAre("15", new int[] {NONE, NONE});
        partnersAre("4114", new int[] {NONE, NONE, 3, 2});
        partnersAre("1441", new int[] {1, 0, NONE, NONE});
        partnersAre("2025052", new int[] {5, NONE, 3, 2, NONE, 0, NONE});
        partnersAre("3636", new int[] {1, 0, 3, 2});
        BracketPairTree x = text("1400");
        int[] places = {-1, 4, 59, 60, 63, 64, LEAST, GREATEST};
        for (int at : places) {
            CHECK.due("partner(" + at + ")", x.partner(at), BAD);
        }
    }

    private static void partnerOfCrossingKinds() {
        partnersAre("123456", new int[] {3, 4, 5, 0, 1, 2});
        partnersAre("1245", new int[] {2, 3, 0, 1});
        String deep = "1".repeat(30) + "4".repeat(30);
        int[] deepPartners = new int[60];
        for (int at = 0; at < 60; at++) {
            deepPartners[at] = 59 - at;
        }
        partnersAre(deep, deepPartners);
    }

    private static void partnersAre(String codes, int[] partners) {
        BracketPairTree x = text(codes);
        for (int at = 0; at < partners.length; at++) {
            CHECK.due(codes + ": partner(" + at + ")", x.partner(at), partners[at]);
        }
        CHECK.due(codes + ": partner at the end", x.partner(partners.length), BAD);
        CHECK.due(codes + ": partner(-1)", x.partner(-1), BAD);
    }

    // Promises 8, 9 and 12

    private static void aroundAndDepth() {
        BracketPairTree x = text("1102440");
        spanned(x, 0, 1, NONE, 0);
        spanned(x, 1, 1, 0, 1);
        spanned(x, 2, 1, 1, 2);
        spanned(x, 3, 1, 1, 2);
        spanned(x, 4, 1, 0, 1);
        spanned(x, 5, 1, NONE, 0);
        spanned(x, 6, 1, NONE, 0);
        spanned(x, 4, 2, NONE, 0);
        spanned(x, 2, 3, NONE, 0);

        BracketPairTree looseBetween = text("1100400");
        spanned(looseBetween, 1, 1, NONE, 0);
        spanned(looseBetween, 2, 1, 1, 1);
        spanned(looseBetween, 5, 1, NONE, 0);

        BracketPairTree crossing = text("12045");
        spanned(crossing, 2, 1, 0, 1);
        spanned(crossing, 2, 2, 1, 1);
        spanned(crossing, 3, 2, 1, 1);
        spanned(crossing, 1, 1, 0, 1);
    }

    private static void aroundABracketOfTheSameKind() {
        BracketPairTree x = text("1144");
        spanned(x, 0, 1, NONE, 0);
        spanned(x, 1, 1, 0, 1);
        spanned(x, 2, 1, 0, 1);
        spanned(x, 3, 1, NONE, 0);

        BracketPairTree one = text("114");
        spanned(one, 1, 1, NONE, 0);
        spanned(one, 2, 1, NONE, 0);

        BracketPairTree siblings = text("1141404");
        spanned(siblings, 2, 1, 0, 1);
        spanned(siblings, 3, 1, 0, 1);
        spanned(siblings, 5, 1, 0, 1);

        BracketPairTree end = text("3".repeat(30) + "6".repeat(30));
        spanned(end, 29, 3, 28, 29);
        spanned(end, 30, 3, 28, 29);
        spanned(end, 58, 3, 0, 1);
        spanned(end, 59, 3, NONE, 0);
    }

    private static void spanned(BracketPairTree x, int at, int kind, int around, int depth) {
        String arguments = "(" + at + ", " + kind + ") of " + textOf(x);
        CHECK.due("around" + arguments, x.around(at, kind), around);
        CHECK.due("depth" + arguments, x.depth(at, kind), depth);
    }

    private static void aroundAndDepthWrong() {
        BracketPairTree x = text("104");
        int[] places = {-1, 3, 60, 64, LEAST, GREATEST};
        for (int at : places) {
            spanned(x, at, 1, BAD, BAD);
            spanned(x, at, 0, BAD, BAD);
        }
        int[] kinds = {-1, 0, 4, 5, LEAST, GREATEST};
        for (int kind : kinds) {
            spanned(x, 1, kind, BAD, BAD);
            spanned(x, 0, kind, BAD, BAD);
        }
        textIs("refused around and depth", x, "104");
    }

    // Promises 10 and 11

    private static void looseAlone() {
        BracketPairTree x = text("41140125");
        loose(x, 0, 8, 1, 2, 1);
        loose(x, 0, 8, 2, 0, 0);
        loose(x, 0, 8, 3, 0, 0);
        loose(x, 1, 2, 1, 2, 0);
        loose(x, 3, 2, 1, 0, 1);
        loose(x, 3, 3, 1, 1, 1);
        loose(x, 0, 1, 1, 0, 1);
        loose(x, 6, 1, 2, 1, 0);
        loose(x, 7, 1, 2, 0, 1);
        loose(x, 6, 2, 2, 0, 0);
        loose(x, 4, 1, 1, 0, 0);
        loose(x, 3, 0, 1, 0, 0);
        loose(x, 8, 0, 1, 0, 0);

        BracketPairTree full = text("6".repeat(30) + "3".repeat(30));
        loose(full, 0, 60, 3, 30, 30);
        loose(full, 29, 2, 3, 1, 1);
        loose(full, 1, 58, 3, 29, 29);
        loose(full, 60, 0, 3, 0, 0);
    }

    private static void loose(BracketPairTree x, int from, int length, int kind, int open, int close) {
        String arguments = "(" + from + ", " + length + ", " + kind + ") of " + textOf(x);
        CHECK.due("looseOpen" + arguments, x.looseOpen(from, length, kind), open);
        CHECK.due("looseClose" + arguments, x.looseClose(from, length, kind), close);
    }

    private static void looseWrong() {
        BracketPairTree x = text("1425");
        int[] kinds = {-1, 0, 4, 5, LEAST, GREATEST};
        for (int kind : kinds) {
            loose(x, 0, 4, kind, BAD, BAD);
            loose(x, 2, 0, kind, BAD, BAD);
            loose(x, 2, 3, kind, BAD, BAD);
        }
        textIs("refused looseOpen and looseClose", x, "1425");
    }

    private static void objectsAreApart() {
        BracketPairTree x = text("14");
        BracketPairTree y = text("41");
        CHECK.due("partner in the first object", x.partner(0), 1);
        CHECK.due("partner in the second object", y.partner(0), NONE);
        textIs("the first object", x, "14");
    }

    private static BracketPairTree text(String codes) {
        BracketPairTree x = new BracketPairTree();
        for (int at = 0; at < codes.length(); at++) {
            CHECK.due("building " + codes, x.insert(at, codes.charAt(at) - '0'), at + 1);
        }
        return x;
    }

    private static void textIs(String where, BracketPairTree x, String codes) {
        CHECK.due(where + ": the length", x.erase(0, 0), codes.length());
        String got = textOf(x);
        if (!got.equals(codes)) {
            CHECK.fault(where + ": the text is " + got + ", due is " + codes);
        }
    }

    private static String textOf(BracketPairTree x) {
        StringBuilder codes = new StringBuilder();
        int code = x.codeAt(0);
        for (int at = 1; at < 61 && code != BAD; at++) {
            codes.append(code);
            code = x.codeAt(at);
        }
        return codes.toString();
    }
}
