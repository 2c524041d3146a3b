import java.util.function.ToIntFunction;
import java.util.stream.IntStream;

/** Objects and numbers that the tests of boundary cases share. */
final class Sample {
    static final int MIN = Integer.MIN_VALUE;
    static final int MAX = Integer.MAX_VALUE;
    static final String[] PHASES = {"EDIT", "COMPILED", "RAN"};

    /** Ints at the ends and in the middle of the range, and some whose multiples overflow. */
    static final int[] ANY_INTS = {
        MIN, MIN + 1, -(1 << 30), -65536, -17, -2, -1, 0, 1, 2, 3, 16, 65536, 1 << 28, 1 << 30,
        MAX - 1, MAX
    };

    // Fewer variables and registers than there can be, so that V and R are not 16 and 4.
    static final int VARS = 3;
    static final int REGS = 2;

    static final String ENTERED = "block (0 2 0 1) (8 9 2 9) (2 0 2 1) (8 -1 0 16)"
            + " v0 in 1 = 5 v1 in 0 = 7 v2 in 0 = -3";
    static final int STATEMENTS = 4;
    static final String ADDRESSES = "2 0 1";
    static final int NAIVE_LOADS = 8;
    static final int OPTIMISED_LOADS = 2;
    static final String NAIVE = "LDAR 1 0, LOAD 1 0, LDAR 0 1, ADD 0 0, LDAR 0 2, STORE 0 0, "
            + "LDAR 0 2, LOAD 0 0, OUT 0 0, "
            + "LDAR 0 2, LOAD 0 0, LDAR 0 1, MUL 0 0, LDAR 1 0, STORE 1 0, "
            + "LDAR 1 0, LOAD 1 0, OUT 0 0";
    static final int NAIVE_LENGTH = 18;
    static final String OPTIMISED = "LDAR 1 2, LOAD 1 0, LDAR 0 0, ADD 0 1, STORE 0 0, "
            + "LOAD 0 0, OUT 0 0, LOAD 0 -1, MUL 0 0, STORE 1 0, LOAD 1 0, OUT 0 0";
    static final int OPTIMISED_LENGTH = 12;
    static final String VALUES = "84 7 12";
    static final String OUTPUTS = "12 84";

    /** The object that the texts above describe, in the phase. */
    static OffsetAssign in(String phase) {
        OffsetAssign x = new OffsetAssign(VARS, REGS);
        x.setRegister(0, 1);
        x.setInit(0, 5);
        x.setInit(1, 7);
        x.setInit(2, -3);
        x.addStatement(0, 2, 0, 1);     // v2 = v0 + v1
        x.addStatement(8, 9, 2, 9);     // output v2
        x.addStatement(2, 0, 2, 1);     // v0 = v2 * v1
        x.addStatement(8, -1, 0, 16);   // output v0
        return bring(x, phase);
    }

    /** An object with 32 statements, each with three accesses, in the phase. */
    static OffsetAssign fullIn(String phase) {
        OffsetAssign x = new OffsetAssign(VARS, REGS);
        x.setRegister(2, 1);
        x.setInit(0, 1);
        for (int i = 0; i < 32; i++) {
            x.addStatement(i % 6, i % 3, (i + 1) % 3, 0);
        }
        return bring(x, phase);
    }

    private static OffsetAssign bring(OffsetAssign x, String phase) {
        if (!phase.equals("EDIT")) {
            x.compile();
        }
        if (phase.equals("RAN")) {
            x.run();
        }
        return x;
    }

    /** An object over vars variables of register 0 whose access sequence is the given one. */
    static OffsetAssign reading(int vars, int... sequence) {
        OffsetAssign x = new OffsetAssign(vars, 4);
        for (int v : sequence) {
            x.addStatement(8, 0, v, 0);
        }
        return x;
    }

    /** Numbers outside 0..n-1: many near ones, and far ones whose multiples overflow. */
    static int[] outside(int n) {
        IntStream near = IntStream.rangeClosed(-70, 270);
        return IntStream.concat(near, IntStream.of(ANY_INTS)).filter(i -> i < 0 || i >= n)
                .toArray();
    }

    /**
     * Makes the call in each phase and checks that it answers as due and leaves the object like a
     * twin without the call, now and in all that follows.
     */
    static void changesNothing(Check check, String call, ToIntFunction<OffsetAssign> made,
            int due) {
        for (String phase : PHASES) {
            OffsetAssign x = in(phase);
            check.due(call + " in " + phase, made.applyAsInt(x), due);
            sameFromNowOn(check, call + " in " + phase, x, in(phase));
        }
    }

    static void sameFromNowOn(Check check, String what, OffsetAssign x, OffsetAssign twin) {
        check.due("after " + what, Shown.everything(x), Shown.everything(twin));
        check.due("run after " + what, x.run(), twin.run());
        check.due("after run after " + what, Shown.everything(x), Shown.everything(twin));
        check.due("number after " + what, x.addStatement(6, 1, 0, 0),
                twin.addStatement(6, 1, 0, 0));
        check.due("compile after " + what, x.compile(), twin.compile());
        x.run();
        twin.run();
        check.due("all after " + what, Shown.everything(x), Shown.everything(twin));
    }

    private Sample() {
    }
}
