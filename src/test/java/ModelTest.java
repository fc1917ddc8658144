import java.util.Random;

/** Long runs of edits, right and wrong ones, on the class and on the model; all their answers must agree. */
public final class ModelTest {
    private static final int CALLS = 512;
    private static final Check CHECK = new Check("ModelTest");

    public static void main(String[] args) {
        everyShortText();
        for (int seed = 1; seed <= 60; seed++) {
            longRun(seed);
        }
        for (int seed = 1; seed <= 2000; seed++) {
            mixedRun(seed);
        }
        CHECK.finish();
    }

    private static void everyShortText() {
        int texts = 7 * 7 * 7 * 7;
        for (int number = 0; number < texts; number++) {
            BracketPairTree x = new BracketPairTree();
            TextModel model = new TextModel();
            for (int rest = number; rest > 0; rest /= 7) {
                x.insert(0, rest % 7);
                model.insert(0, rest % 7);
            }
            compareAll("short text", x, model);
        }
    }

    /** Few edits, and after each every question that can be asked of the text. */
    private static void longRun(int seed) {
        Random random = new Random(seed);
        BracketPairTree x = new BracketPairTree();
        TextModel model = new TextModel();
        for (int i = 0; i < 90; i++) {
            edit(random, "run " + seed, x, model);
            if (i % 5 == 0) {
                compareAll("run " + seed, x, model);
            }
        }
        compareAll("run " + seed, x, model);
    }

    /** As many calls as an object is used for, of all methods in any order. */
    private static void mixedRun(int seed) {
        Random random = new Random(-seed);
        BracketPairTree x = new BracketPairTree();
        TextModel model = new TextModel();
        for (int i = 0; i < CALLS; i++) {
            if (random.nextInt(10) < 6) {
                edit(random, "mixed run " + seed, x, model);
            } else {
                ask(random, "mixed run " + seed, x, model);
            }
        }
    }

    private static void edit(Random random, String run, BracketPairTree x, TextModel model) {
        int length = model.length();
        int from = number(random, length);
        int size = number(random, random.nextBoolean() ? length - from : 6);
        int to = number(random, length - size);
        String before = run + " " + model;
        int choice = random.nextInt(20);
        if (choice < 13) {
            int code = random.nextInt(30) == 0 ? number(random, 6) : random.nextInt(7);
            CHECK.due(before + ": insert(" + from + ", " + code + ")", x.insert(from, code), model.insert(from, code));
        } else if (choice < 14) {
            int few = random.nextInt(4) == 0 ? size : number(random, 4);
            CHECK.due(before + ": erase(" + from + ", " + few + ")", x.erase(from, few), model.erase(from, few));
        } else if (choice < 17) {
            CHECK.due(before + ": move(" + from + ", " + size + ", " + to + ")", x.move(from, size, to), model.move(from, size, to));
        } else {
            CHECK.due(before + ": mirror(" + from + ", " + size + ")", x.mirror(from, size), model.mirror(from, size));
        }
    }

    private static void ask(Random random, String run, BracketPairTree x, TextModel model) {
        int at = number(random, model.length());
        int size = number(random, model.length() - at);
        int kind = number(random, 3);
        switch (random.nextInt(4)) {
            case 0:
                compareAt(run, x, model, at);
                break;
            case 1:
                comparePairs(run, x, model, at, kind);
                break;
            default:
                compareLoose(run, x, model, at, size, kind);
                break;
        }
    }

    /** Mostly from 0 to bound, now and then just outside or far outside. */
    private static int number(Random random, int bound) {
        int[] odd = {-1, bound + 1, 60, 61, Integer.MIN_VALUE, Integer.MAX_VALUE};
        if (bound < 0 || random.nextInt(25) == 0) {
            return odd[random.nextInt(odd.length)];
        }
        return bound == Integer.MAX_VALUE ? random.nextInt(bound) : random.nextInt(bound + 1);
    }

    private static void compareAll(String run, BracketPairTree x, TextModel model) {
        for (int at = -1; at <= model.length() + 1; at++) {
            compareAt(run, x, model, at);
            for (int kind = 0; kind <= 4; kind++) {
                comparePairs(run, x, model, at, kind);
            }
        }
        boolean isShort = model.length() < 20;
        for (int from = -1; from <= model.length() + 1; from += isShort ? 1 : 3) {
            for (int size = -1; size <= model.length() + 1; size += isShort ? 1 : 4) {
                for (int kind = 0; kind <= 4; kind++) {
                    compareLoose(run, x, model, from, size, kind);
                }
            }
        }
    }

    private static void compareAt(String run, BracketPairTree x, TextModel model, int at) {
        String where = run + " " + model + ": ";
        CHECK.due(where + "codeAt(" + at + ")", x.codeAt(at), model.codeAt(at));
        CHECK.due(where + "partner(" + at + ")", x.partner(at), model.partner(at));
    }

    private static void comparePairs(String run, BracketPairTree x, TextModel model, int at, int kind) {
        String where = run + " " + model + ": ";
        CHECK.due(where + "around(" + at + ", " + kind + ")", x.around(at, kind), model.around(at, kind));
        CHECK.due(where + "depth(" + at + ", " + kind + ")", x.depth(at, kind), model.depth(at, kind));
    }

    private static void compareLoose(String run, BracketPairTree x, TextModel model, int from, int size, int kind) {
        String where = run + " " + model + ": ";
        String arguments = "(" + from + ", " + size + ", " + kind + ")";
        CHECK.due(where + "looseOpen" + arguments, x.looseOpen(from, size, kind), model.looseOpen(from, size, kind));
        CHECK.due(where + "looseClose" + arguments, x.looseClose(from, size, kind), model.looseClose(from, size, kind));
    }
}
