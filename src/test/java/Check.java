/** Counts and prints the answers that are not as due. */
final class Check {
    private static final int MOST_PRINTED = 50;
    private int wrong = 0;

    void due(String call, long got, long want) {
        if (got != want) {
            fault(call + " answered " + got + ", due is " + want);
        }
    }

    void due(String call, boolean got, boolean want) {
        if (got != want) {
            fault(call + " answered " + got + ", due is " + want);
        }
    }

    void due(String call, String got, String want) {
        if (!got.equals(want)) {
            fault(call + " is " + got + ", due is " + want);
        }
    }

    void fault(String text) {
        wrong++;
        if (wrong <= MOST_PRINTED) {
            System.out.println(text);
        }
    }

    boolean anyWrong() {
        return wrong != 0;
    }

    void end() {
        if (wrong != 0) {
            System.out.println(wrong + " answers are not as due");
            System.exit(1);
        }
        System.out.println("all answers are as due");
    }
}
