/** Runs of calls, right and wrong ones, on the class and on the model; all their answers must agree. */
public final class ModelTest {
    private static final Check CHECK = new Check("ModelTest");

    public static void main(String[] args) {
        everyShortText();
        for (int seed = 1; seed <= 400; seed++) {
            for (int kind = 1; kind <= 3; kind++) {
                editThenAskAll(seed, kind);
            }
        }
        for (int seed = 1; seed <= 2000; seed++) {
            mixedRun(seed);
        }
        CHECK.finish();
    }

    private static void everyShortText() {
        for (int number = 0; number < 7 * 7 * 7 * 7; number++) {
            for (int kind = 0; kind <= 4; kind++) {
                Twin twin = new Twin(CHECK, "short text");
                for (int rest = number; rest > 0; rest /= 7) {
                    twin.insert(0, rest % 7);
                }
                askEveryPosition(twin, kind);
                askEveryStretch(twin, kind);
            }
        }
    }

    /** One kind a run, because the questions of all three would be more calls than an object is used for. */
    private static void editThenAskAll(int seed, int kind) {
        Numbers numbers = new Numbers(seed);
        Twin twin = new Twin(CHECK, "edited text " + seed);
        int edits = 10 + seed % 120;
        for (int i = 0; i < edits; i++) {
            edit(numbers, twin);
        }
        askEveryPosition(twin, kind);
        for (int i = twin.callsLeft() / 2; i > 0; i--) {
            int from = numbers.below(twin.length() + 1);
            int length = numbers.below(twin.length() - from + 1);
            twin.looseOpen(from, length, kind);
            twin.looseClose(from, length, kind);
        }
    }

    /** As many calls as an object is used for, of all methods in any order. */
    private static void mixedRun(int seed) {
        Numbers numbers = new Numbers(-seed);
        Twin twin = new Twin(CHECK, "mixed run " + seed);
        int editsInTen = 2 + seed % 7;
        while (twin.callsLeft() > 0) {
            if (numbers.below(10) < editsInTen) {
                edit(numbers, twin);
            } else {
                ask(numbers, twin);
            }
        }
    }

    private static void edit(Numbers numbers, Twin twin) {
        int choice = numbers.below(20);
        int from = numbers.upTo(twin.length());
        if (choice < 13) {
            int code = numbers.upTo(6);
            twin.insert(from, code);
            return;
        }
        boolean isLong = numbers.below(2) == 0;
        int length = numbers.upTo(isLong ? twin.length() - from : 6);
        if (choice < 14) {
            twin.erase(from, numbers.below(4) == 0 ? length : numbers.upTo(4));
        } else if (choice < 17) {
            twin.move(from, length, numbers.upTo(twin.length() - length));
        } else {
            twin.mirror(from, length);
        }
    }

    private static void ask(Numbers numbers, Twin twin) {
        int at = numbers.upTo(twin.length() - 1);
        int length = numbers.upTo(twin.length() - at);
        int kind = 1 + numbers.upTo(2);
        switch (numbers.below(6)) {
            case 0 -> twin.codeAt(at);
            case 1 -> twin.partner(at);
            case 2 -> twin.around(at, kind);
            case 3 -> twin.depth(at, kind);
            case 4 -> twin.looseOpen(at, length, kind);
            default -> twin.looseClose(at, length, kind);
        }
    }

    private static void askEveryPosition(Twin twin, int kind) {
        for (int at = -1; at <= twin.length(); at++) {
            twin.codeAt(at);
            twin.partner(at);
            twin.around(at, kind);
            twin.depth(at, kind);
        }
    }

    private static void askEveryStretch(Twin twin, int kind) {
        for (int from = -1; from <= twin.length() + 1; from++) {
            for (int length = -1; length <= twin.length() + 1; length++) {
                twin.looseOpen(from, length, kind);
                twin.looseClose(from, length, kind);
            }
        }
    }
}
