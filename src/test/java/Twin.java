/** The class and the model side by side: every call goes to both, and their answers must agree. */
final class Twin {
    private static final int CALLS = Subject.CALLS;

    private final Check check;
    private final String run;
    private final BracketPairTree x = new BracketPairTree();
    private final TextModel model = new TextModel();
    private int calls = 0;

    Twin(Check check, String run) {
        this.check = check;
        this.run = run;
    }

    int length() {
        return model.length();
    }

    int callsLeft() {
        return CALLS - calls;
    }

    void insert(int at, int code) {
        String call = named("insert", at, code);
        agree(call, x.insert(at, code), model.insert(at, code));
    }

    void erase(int from, int length) {
        String call = named("erase", from, length);
        agree(call, x.erase(from, length), model.erase(from, length));
    }

    void move(int from, int length, int to) {
        String call = named("move", from, length, to);
        agree(call, x.move(from, length, to), model.move(from, length, to));
    }

    void mirror(int from, int length) {
        String call = named("mirror", from, length);
        agree(call, x.mirror(from, length), model.mirror(from, length));
    }

    void codeAt(int at) {
        agree(named("codeAt", at), x.codeAt(at), model.codeAt(at));
    }

    void partner(int at) {
        agree(named("partner", at), x.partner(at), model.partner(at));
    }

    void around(int at, int kind) {
        agree(named("around", at, kind), x.around(at, kind), model.around(at, kind));
    }

    void depth(int at, int kind) {
        agree(named("depth", at, kind), x.depth(at, kind), model.depth(at, kind));
    }

    void looseOpen(int from, int length, int kind) {
        String call = named("looseOpen", from, length, kind);
        agree(call, x.looseOpen(from, length, kind), model.looseOpen(from, length, kind));
    }

    void looseClose(int from, int length, int kind) {
        String call = named("looseClose", from, length, kind);
        agree(call, x.looseClose(from, length, kind), model.looseClose(from, length, kind));
    }

    private String named(String method, int... arguments) {
        return run + ", text " + model + ": " + method + java.util.Arrays.toString(arguments);
    }

    private void agree(String call, int got, int want) {
        calls++;
        if (calls > CALLS) {
            check.fault(run + ": the test itself makes more than " + CALLS + " calls on one object");
        }
        check.due(call, got, want);
    }
}
