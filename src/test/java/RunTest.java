/** Promises 7 and 15 to 17: running the two programs and reading what they left. */
public final class RunTest {
    private static final int MIN = Integer.MIN_VALUE;
    private static final int MAX = Integer.MAX_VALUE;
    private static final Check check = new Check();

    public static void main(String[] args) {
        phases();
        arithmetic();
        aliases();
        freshStarts();
        registers();
        emptyBlock();
        fullOutput();
        refusals();
        check.end();
    }

    private static void phases() {
        OffsetAssign x = new OffsetAssign(2, 1);
        x.addStatement(8, 0, 1, 0);
        check.due("7: in EDIT", x.run(), -1);
        check.due("7: phase after refusal", Shown.phase(x), "EDIT");
        x.compile();
        check.due("7: in COMPILED", x.run(), 1);
        check.due("7: phase after run", Shown.phase(x), "RAN");
        check.due("7: in RAN", x.run(), 1);
        check.due("7: phase after second run", Shown.phase(x), "RAN");
        x.addStatement(8, 0, 0, 0);
        check.due("7: in EDIT after RAN", x.run(), -1);
    }

    private static void arithmetic() {
        // op, left, right, result
        int[][] cases = {
            {0, 3, 4, 7}, {0, MAX, 1, MIN}, {0, MIN, -1, MAX},
            {1, 3, 4, -1}, {1, MIN, 1, MAX}, {1, 0, MIN, MIN},
            {2, -3, 4, -12}, {2, 65536, 65536, 0}, {2, MIN, -1, MIN}, {2, MAX, MAX, 1},
            {3, 12, 10, 8}, {3, -1, MIN, MIN}, {4, 12, 10, 14}, {4, MIN, 1, MIN + 1},
            {5, 12, 10, 6}, {5, -1, MAX, MIN}
        };
        for (int[] c : cases) {
            OffsetAssign x = new OffsetAssign(3, 1);
            x.setInit(0, c[1]);
            x.setInit(2, c[2]);
            x.addStatement(c[0], 1, 0, 2);
            x.addStatement(8, 0, 1, 0);
            leaves("op " + c[0], x, new int[] {c[1], c[3], c[2]}, "" + c[3]);
        }
        OffsetAssign copy = new OffsetAssign(2, 1);
        copy.setInit(1, MIN);
        copy.addStatement(6, 0, 1, 0);
        leaves("copy", copy, new int[] {MIN, MIN}, "");
        OffsetAssign constant = new OffsetAssign(2, 1);
        constant.addStatement(7, 1, MAX, 0);
        constant.addStatement(7, 0, MIN, 0);
        leaves("constant", constant, new int[] {MIN, MAX}, "");
    }

    private static void aliases() {
        OffsetAssign x = new OffsetAssign(3, 1);
        x.setInit(2, 5);
        x.addStatement(2, 2, 2, 2);
        x.addStatement(8, 0, 2, 0);
        x.addStatement(1, 2, 2, 2);
        x.addStatement(6, 2, 2, 0);
        x.addStatement(8, 0, 2, 0);
        leaves("one variable in all places", x, new int[] {0, 0, 0}, "25 0");
    }

    private static void freshStarts() {
        OffsetAssign x = new OffsetAssign(3, 1);
        x.setInit(0, 1);
        x.setInit(2, 10);
        x.addStatement(0, 0, 0, 2);
        x.addStatement(8, 0, 0, 0);
        leaves("first run", x, new int[] {11, 0, 10}, "11");
        x.run();
        left("second run", x, new int[] {11, 0, 10}, "11");
        x.setInit(0, 2);
        check.due("7: after setInit", x.run(), 1);
        left("run after setInit", x, new int[] {12, 0, 10}, "12");
        check.due("7: init kept", x.getVariable(0, 1), 2);
        check.due("7: code kept", x.getAddrLoads(1), 1);
    }

    private static void registers() {
        OffsetAssign x = new OffsetAssign(5, 3);
        for (int v = 0; v < 5; v++) {
            x.setInit(v, v + 1);
        }
        x.setRegister(0, 2);
        x.setRegister(1, 1);
        x.setRegister(3, 1);
        x.addStatement(0, 4, 0, 3);   // v4 = 1 + 4
        x.addStatement(8, 0, 4, 0);
        x.addStatement(2, 1, 4, 2);   // v1 = 5 * 3
        x.addStatement(7, 2, -6, 0);
        x.addStatement(8, 0, 1, 0);
        x.addStatement(5, 0, 1, 2);   // v0 = 15 ^ -6
        leaves("three registers", x, new int[] {15 ^ -6, 15, -6, 4, 5}, "5 15");
        check.due("7: memory is laid out otherwise", Shown.addresses(x), "4 2 0 3 1");
    }

    private static void emptyBlock() {
        OffsetAssign x = new OffsetAssign(2, 2);
        x.setRegister(0, 1);
        x.setInit(0, 3);
        x.setInit(1, 4);
        leaves("empty block", x, new int[] {3, 4}, "");
        check.due("16: empty block", x.getOutputCount(0), 0);
    }

    private static void fullOutput() {
        OffsetAssign x = new OffsetAssign(16, 1);
        StringBuilder due = new StringBuilder();
        int[] values = new int[16];
        for (int v = 0; v < 16; v++) {
            values[v] = 100 + v;
            x.setInit(v, 100 + v);
        }
        for (int i = 0; i < 32; i++) {
            x.addStatement(8, 0, (i * 5) % 16, 0);
            due.append(i == 0 ? "" : " ").append(100 + (i * 5) % 16);
        }
        leaves("32 outputs", x, values, due.toString());
        for (int which = 0; which <= 1; which++) {
            check.due("16: 32 outputs", x.getOutputCount(which), 32);
            check.due("17: the last", x.getOutput(which, 31), 100 + (31 * 5) % 16);
            check.due("17: after the last", x.getOutput(which, 32), 0);
        }
        x.clear();
        x.addStatement(8, 0, 1, 0);
        leaves("fewer outputs", x, values, "101");
        check.due("17: nothing left over", x.getOutput(1, 1), 0);
    }

    private static void refusals() {
        OffsetAssign x = new OffsetAssign(2, 1);
        x.setInit(0, 6);
        x.setInit(1, 7);
        x.addStatement(8, 0, 0, 0);
        refusesAll(x, "in EDIT", 0);
        x.compile();
        refusesAll(x, "in COMPILED", 0);
        x.run();
        for (int which : new int[] {MIN, -1, 2, MAX}) {
            refusesAll(x, "which " + which, which);
        }
        for (int v : new int[] {MIN, -1, 2, 16, MAX}) {
            check.due("15: variable " + v, x.getVar(0, v), 0);
            check.due("15: variable " + v, x.getVar(1, v), 0);
        }
        for (int index : new int[] {MIN, -1, 1, 32, MAX}) {
            check.due("17: index " + index, x.getOutput(0, index), 0);
            check.due("17: index " + index, x.getOutput(1, index), 0);
        }
        check.due("17: phase kept", Shown.phase(x), "RAN");
        x.compile();
        refusesAll(x, "in COMPILED after RAN", 1);
        x.run();
        x.setInit(0, 6);
        refusesAll(x, "after setInit", 1);
        x.run();
        x.setRegister(0, 0);
        refusesAll(x, "in EDIT after RAN", 1);
    }

    private static void refusesAll(OffsetAssign x, String when, int which) {
        check.due("15: " + when, x.getVar(which, 0), 0);
        check.due("16: " + when, x.getOutputCount(which), -1);
        check.due("17: " + when, x.getOutput(which, 0), 0);
    }

    private static void leaves(String what, OffsetAssign x, int[] values, String outputs) {
        x.compile();
        int count = outputs.isEmpty() ? 0 : outputs.split(" ").length;
        check.due("7: answer, " + what, x.run(), count);
        left(what, x, values, outputs);
    }

    private static void left(String what, OffsetAssign x, int[] values, String outputs) {
        for (int which = 0; which <= 1; which++) {
            for (int v = 0; v < values.length; v++) {
                check.due("15: variable " + v + ", " + what, x.getVar(which, v), values[v]);
            }
            check.due("17: outputs, " + what, Shown.outputs(x, which), outputs);
        }
    }
}
