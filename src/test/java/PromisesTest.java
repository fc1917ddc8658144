/** Each promise by itself with ordinary inputs. The boundary cases and wrong inputs have tests of their own. */
public final class PromisesTest {
    private static final int NONE = Edges.NONE;

    private static final Check CHECK = new Check("PromisesTest");

    public static void main(String[] args) {
        theConstants();
        insertOrdinary();
        eraseOrdinary();
        eraseLoosensPairs();
        moveOrdinary();
        movePairs();
        mirrorOrdinary();
        mirrorPairs();
        codeAtOrdinary();
        partnerOrdinary();
        aroundAndDepthOrdinary();
        aroundAndDepthOfCrossingKinds();
        aroundAndDepthAtABracketOfTheKind();
        looseOrdinary();
        CHECK.finish();
    }

    private static void theConstants() {
        CHECK.due("BAD", BracketPairTree.BAD, Edges.BAD);
        CHECK.due("FULL", BracketPairTree.FULL, Edges.FULL);
        CHECK.due("NONE", BracketPairTree.NONE, Edges.NONE);
    }

    // Promise 2

    private static void insertOrdinary() {
        Subject x = new Subject(CHECK, "");
        x.due(1, "insert", 0, 3);
        x.due(2, "insert", 1, 6);
        x.due(3, "insert", 0, 0);
        x.due(4, "insert", 2, 5);
        x.textIs("0356");
    }

    // Promise 3

    private static void eraseOrdinary() {
        Subject x = new Subject(CHECK, "0123456");
        x.due(4, "erase", 2, 3);
        x.textIs("0156");
        x.due(3, "erase", 0, 1);
        x.textIs("156");
        x.due(2, "erase", 2, 1);
        x.textIs("15");
    }

    private static void eraseLoosensPairs() {
        Subject x = new Subject(CHECK, "1144");
        x.partnersAre(3, 2, 1, 0);
        x.due(3, "erase", 3, 1);
        x.partnersAre(NONE, 2, 1);
        x.loose(0, 3, 1, 1, 0);
    }

    // Promise 4

    private static void moveOrdinary() {
        moved("0123456", 1, 2, 4, "0345126");
        moved("0123456", 1, 2, 2, "0312456");
        moved("0123456", 1, 2, 1, "0123456");
        moved("0123456", 1, 2, 0, "1203456");
        moved("0123456", 4, 3, 1, "0456123");
    }

    private static void moved(String before, int from, int length, int to, String after) {
        Subject x = new Subject(CHECK, before);
        x.due(before.length(), "move", from, length, to);
        x.textIs(after);
    }

    private static void movePairs() {
        Subject x = new Subject(CHECK, "4100");
        x.partnersAre(NONE, NONE, NONE, NONE);
        x.due(4, "move", 0, 1, 3);
        x.partnersAre(3, NONE, NONE, 0);
    }

    // Promise 5

    private static void mirrorOrdinary() {
        mirrored("0123456", 0, 7, "3216540");
        mirrored("0123456", 1, 2, "0543456");
        mirrored("0123456", 4, 3, "0123321");
        mirrored("0123456", 2, 3, "0116556");
    }

    private static void mirrored(String before, int from, int length, String after) {
        Subject x = new Subject(CHECK, before);
        x.due(before.length(), "mirror", from, length);
        x.textIs(after);
        x.due(before.length(), "mirror", from, length);
        x.textIs(before);
    }

    private static void mirrorPairs() {
        Subject x = new Subject(CHECK, "1004");
        x.due(4, "mirror", 0, 4);
        x.partnersAre(3, NONE, NONE, 0);
        x.due(4, "mirror", 2, 2);
        x.partnersAre(NONE, NONE, NONE, NONE);
        x.loose(0, 4, 1, 2, 0);
    }

    // Promise 6

    private static void codeAtOrdinary() {
        Subject x = new Subject(CHECK, "6543210");
        for (int at = 0; at < 7; at++) {
            x.due(6 - at, "codeAt", at);
        }
    }

    // Promise 7

    private static void partnerOrdinary() {
        new Subject(CHECK, "4114").partnersAre(NONE, NONE, 3, 2);
        new Subject(CHECK, "1441").partnersAre(1, 0, NONE, NONE);
        new Subject(CHECK, "2025052").partnersAre(5, NONE, 3, 2, NONE, 0, NONE);
        new Subject(CHECK, "3636").partnersAre(1, 0, 3, 2);
    }

    // Promises 8 and 9

    private static void aroundAndDepthOrdinary() {
        Subject x = new Subject(CHECK, "1102440");
        x.spanned(0, 1, NONE, 0);
        x.spanned(1, 1, 0, 1);
        x.spanned(2, 1, 1, 2);
        x.spanned(3, 1, 1, 2);
        x.spanned(4, 1, 0, 1);
        x.spanned(6, 1, NONE, 0);
        x.spanned(4, 2, NONE, 0);
        x.spanned(2, 3, NONE, 0);

        Subject looseBetween = new Subject(CHECK, "1100400");
        looseBetween.spanned(1, 1, NONE, 0);
        looseBetween.spanned(2, 1, 1, 1);
        looseBetween.spanned(5, 1, NONE, 0);
    }

    private static void aroundAndDepthOfCrossingKinds() {
        Subject x = new Subject(CHECK, "12045");
        x.spanned(1, 1, 0, 1);
        x.spanned(2, 1, 0, 1);
        x.spanned(2, 2, 1, 1);
        x.spanned(3, 2, 1, 1);
    }

    private static void aroundAndDepthAtABracketOfTheKind() {
        Subject one = new Subject(CHECK, "114");
        one.spanned(1, 1, NONE, 0);
        one.spanned(2, 1, NONE, 0);

        Subject siblings = new Subject(CHECK, "1141404");
        siblings.spanned(2, 1, 0, 1);
        siblings.spanned(3, 1, 0, 1);
        siblings.spanned(5, 1, 0, 1);
    }

    // Promises 10 and 11

    private static void looseOrdinary() {
        Subject x = new Subject(CHECK, "41140125");
        x.loose(0, 8, 1, 2, 1);
        x.loose(0, 8, 2, 0, 0);
        x.loose(0, 8, 3, 0, 0);
        x.loose(1, 2, 1, 2, 0);
        x.loose(3, 2, 1, 0, 1);
        x.loose(3, 3, 1, 1, 1);
        x.loose(6, 1, 2, 1, 0);
        x.loose(7, 1, 2, 0, 1);
        x.loose(6, 2, 2, 0, 0);
    }
}
