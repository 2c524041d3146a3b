/** Counts and prints the answers that are not as due. */
final class Check {
    private static final int MOST_PRINTED = 20;
    private int wrong = 0;
    private int printed = 0;
    private int tests = 0;
    private String heading = "";

    /** Runs the test of one sentence of the document; the sentence is printed above its faults. */
    void test(String sentence, Runnable body) {
        tests++;
        printed = 0;
        heading = sentence;
        try {
            body.run();
        } catch (RuntimeException thrown) {
            // No call may ever throw, so the other tests go on and this one has failed.
            fault("threw " + thrown);
        }
        heading = "";
    }

    void due(String call, long got, long want) {
        if (got != want) {
            fault(call + " answered " + got + ", due is " + want);
        }
    }

    void due(String call, boolean got, boolean want) {
        if (got != want) {
            fault(call + " answered " + got + ", due is " + want);
        }
    }

    void due(String call, String got, String want) {
        if (!got.equals(want)) {
            fault(call + " is " + got + ", due is " + want);
        }
    }

    void fault(String text) {
        wrong++;
        printed++;
        if (printed > MOST_PRINTED) {
            return;
        }
        if (!heading.isEmpty()) {
            System.out.println("broken: " + heading);
            heading = "";
        }
        System.out.println("  " + text);
    }

    boolean anyWrong() {
        return wrong != 0;
    }

    void end() {
        if (wrong != 0) {
            System.out.println(wrong + " answers are not as due");
            System.exit(1);
        }
        System.out.println("all answers are as due" + (tests == 0 ? "" : ", " + tests + " tests"));
    }
}
