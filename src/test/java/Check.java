/** Counts the answers of one test that are not the ones due, and ends the test with exit code 1 if there were any. */
final class Check {
    private static final int SHOWN = 20;

    private final String test;
    private int asked = 0;
    private int wrong = 0;

    Check(String test) {
        this.test = test;
    }

    void due(String call, int got, int want) {
        asked++;
        if (got != want) {
            fault(call + " answered " + got + ", due is " + want);
        }
    }

    void yes(String words, boolean holds) {
        asked++;
        if (!holds) {
            fault("not so: " + words);
        }
    }

    void fault(String words) {
        wrong++;
        if (wrong <= SHOWN) {
            System.out.println(words);
        }
    }

    void finish() {
        if (wrong != 0) {
            System.out.println(test + ": " + wrong + " faults");
            System.exit(1);
        }
        System.out.println(test + ": " + asked + " answers are as due");
    }
}
