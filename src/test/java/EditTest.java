/** Promises 1 to 5, 8 and 9: making an object, editing its block, registers and initial values. */
public final class EditTest {
    private static final int NONE = Integer.MIN_VALUE;
    private static final int MIN = Integer.MIN_VALUE;
    private static final int MAX = Integer.MAX_VALUE;
    private static final Check check = new Check();

    public static void main(String[] args) {
        construction();
        clear();
        addStatementOrder();
        addStatementVariables();
        addStatementPhase();
        setRegister();
        setInit();
        getStatement();
        getVariable();
        check.end();
    }

    /** An object in phase RAN whose block is: v1 = 9, output v0. */
    private static OffsetAssign ran() {
        OffsetAssign x = new OffsetAssign(3, 2);
        x.setRegister(2, 1);
        x.setInit(0, 4);
        x.addStatement(7, 1, 9, 0);
        x.addStatement(8, 0, 0, 0);
        x.compile();
        x.run();
        return x;
    }

    private static OffsetAssign compiled() {
        OffsetAssign x = ran();
        x.compile();
        return x;
    }

    private static void construction() {
        int[][] cases = {
            // numVars, numRegs, V, R
            {MIN, MIN, 2, 1}, {-1, -1, 2, 1}, {0, 0, 2, 1}, {1, 1, 2, 1}, {2, 2, 2, 2},
            {3, 3, 3, 3}, {15, 4, 15, 4}, {16, 5, 16, 4}, {17, 6, 16, 4}, {MAX, MAX, 16, 4},
            {MIN, MAX, 2, 4}, {MAX, MIN, 16, 1}
        };
        for (int[] c : cases) {
            String made = "1: new OffsetAssign(" + c[0] + ", " + c[1] + ") ";
            OffsetAssign x = new OffsetAssign(c[0], c[1]);
            check.due(made + "phase", Shown.phase(x), "EDIT");
            check.due(made + "statements", x.getStatement(-1, 0), 0);
            for (int v = 0; v < c[2]; v++) {
                check.due(made + "reg " + v, x.getVariable(v, 0), 0);
                check.due(made + "init " + v, x.getVariable(v, 1), 0);
            }
            check.due(made + "V", x.getVariable(c[2], 0), NONE);
            check.due(made + "R-1", x.setRegister(0, c[3] - 1), true);
            check.due(made + "R", x.setRegister(0, c[3]), false);
        }
    }

    private static void clear() {
        OffsetAssign x = ran();
        x.clear();
        check.due("2: phase after RAN", Shown.phase(x), "EDIT");
        check.due("2: statements", x.getStatement(-1, 0), 0);
        check.due("2: statement 0", x.getStatement(0, 0), NONE);
        check.due("2: reg kept", x.getVariable(2, 0), 1);
        check.due("2: init kept", x.getVariable(0, 1), 4);
        check.due("2: address", x.getAddress(0), -1);
        check.due("2: instruction", x.getInstr(0, 0, 0), NONE);
        check.due("2: final value", x.getVar(0, 1), 0);
        check.due("2: output", x.getOutput(0, 0), 0);
        check.due("2: run", x.run(), -1);
        check.due("2: compile after clear", x.compile(), 0);
        check.due("2: code after clear", x.getCodeLength(0), 0);
        x.clear();
        check.due("2: phase after COMPILED", Shown.phase(x), "EDIT");
        x.clear();
        check.due("2: phase after EDIT", Shown.phase(x), "EDIT");
        check.due("2: number after clear", x.addStatement(8, 0, 2, 0), 0);
        check.due("2: statement after clear", Shown.statement(x, 0), "8 0 2 0");

        OffsetAssign y = new OffsetAssign(2, 1);
        y.addStatement(0, 0, 1, 0);
        y.clear();
        check.due("2: weight after clear", y.getWeight(0, 1), 0);
    }

    private static void addStatementOrder() {
        OffsetAssign x = new OffsetAssign(3, 1);
        check.due("3: op before variable", x.addStatement(9, -1, -1, -1), -2);
        for (int op : new int[] {MIN, -1, 9, 10, MAX}) {
            check.due("3: op " + op, x.addStatement(op, 0, 0, 0), -2);
        }
        check.due("3: nothing stored", x.getStatement(-1, 0), 0);
        for (int i = 0; i < 32; i++) {
            check.due("3: number", x.addStatement(i % 9, i % 3, 1, 2), i);
        }
        check.due("3: full", x.addStatement(0, 0, 0, 0), -1);
        check.due("3: full before op", x.addStatement(9, 0, 0, 0), -1);
        check.due("3: full before variable", x.addStatement(0, 0, 0, 3), -1);
        check.due("3: count when full", x.getStatement(-1, 0), 32);
        check.due("3: last when full", Shown.statement(x, 31), "4 1 1 2");
    }

    private static void addStatementVariables() {
        for (int op = 0; op <= 8; op++) {
            for (int wrong : new int[] {MIN, -1, 3, 16, MAX}) {
                refusesIffUsed(op, 0, wrong, op <= 7);
                refusesIffUsed(op, 1, wrong, op <= 6 || op == 8);
                refusesIffUsed(op, 2, wrong, op <= 5);
            }
            refusesIffUsed(op, 0, 2, false);
            refusesIffUsed(op, 1, 2, false);
            refusesIffUsed(op, 2, 2, false);
        }
    }

    private static void refusesIffUsed(int op, int place, int value, boolean refuses) {
        int[] arguments = new int[3];
        arguments[place] = value;
        String shown = op + " " + arguments[0] + " " + arguments[1] + " " + arguments[2];
        OffsetAssign x = new OffsetAssign(3, 1);
        int answer = x.addStatement(op, arguments[0], arguments[1], arguments[2]);
        check.due("3: add " + shown, answer, refuses ? -3 : 0);
        check.due("3: count after " + shown, x.getStatement(-1, 0), refuses ? 0 : 1);
        if (!refuses) {
            check.due("3: stored", Shown.statement(x, 0), shown);
        }
    }

    private static void addStatementPhase() {
        OffsetAssign x = ran();
        x.addStatement(9, 0, 0, 0);
        x.addStatement(0, 3, 0, 0);
        check.due("3: phase after refusal in RAN", Shown.phase(x), "RAN");
        check.due("3: results after refusal", x.getVar(1, 1), 9);
        x.compile();
        x.addStatement(0, 0, 0, -1);
        check.due("3: phase after refusal in COMPILED", Shown.phase(x), "COMPILED");
        check.due("3: code after refusal", x.getCodeLength(0), 6);
        check.due("3: added", x.addStatement(7, 0, 1, 0), 2);
        check.due("3: phase after adding", Shown.phase(x), "EDIT");
        OffsetAssign y = ran();
        y.addStatement(7, 0, 1, 0);
        check.due("3: phase after adding in RAN", Shown.phase(y), "EDIT");
    }

    private static void setRegister() {
        OffsetAssign x = ran();
        int[][] wrong = {{-1, 0}, {3, 0}, {MIN, 0}, {MAX, 0}, {0, -1}, {0, 2}, {0, MIN}, {0, MAX}};
        for (int[] w : wrong) {
            check.due("4: set " + w[0] + " " + w[1], x.setRegister(w[0], w[1]), false);
        }
        check.due("4: phase after refusals", Shown.phase(x), "RAN");
        check.due("4: reg after refusals", x.getVariable(0, 0), 0);
        check.due("4: set to the old value", x.setRegister(2, 1), true);
        check.due("4: phase after the old value", Shown.phase(x), "EDIT");
        check.due("4: set", x.setRegister(0, 1), true);
        check.due("4: reg", x.getVariable(0, 0), 1);
        check.due("4: init kept", x.getVariable(0, 1), 4);
        check.due("4: others kept", x.getVariable(1, 0), 0);
        check.due("4: statements kept", x.getStatement(-1, 0), 2);
        check.due("4: statement kept", Shown.statement(x, 0), "7 1 9 0");
        OffsetAssign y = compiled();
        y.setRegister(0, 1);
        check.due("4: phase after COMPILED", Shown.phase(y), "EDIT");
    }

    private static void setInit() {
        OffsetAssign x = ran();
        for (int v : new int[] {MIN, -1, 3, 16, MAX}) {
            check.due("5: set " + v, x.setInit(v, 1), false);
        }
        check.due("5: phase after refusals", Shown.phase(x), "RAN");
        check.due("5: set", x.setInit(0, MIN), true);
        check.due("5: init", x.getVariable(0, 1), MIN);
        check.due("5: reg kept", x.getVariable(2, 0), 1);
        check.due("5: phase after RAN", Shown.phase(x), "COMPILED");
        check.due("5: result discarded", x.getVar(0, 1), 0);
        check.due("5: output discarded", x.getOutput(0, 0), 0);
        check.due("5: code kept", x.getCodeLength(0), 6);
        check.due("5: layout kept", Shown.addresses(x), "0 1 2");
        check.due("5: run", x.run(), 1);
        check.due("5: output", x.getOutput(1, 0), MIN);
        x.compile();
        x.setInit(2, MAX);
        check.due("5: phase after COMPILED", Shown.phase(x), "COMPILED");
        OffsetAssign y = new OffsetAssign(2, 1);
        check.due("5: set in EDIT", y.setInit(1, -7), true);
        check.due("5: init in EDIT", y.getVariable(1, 1), -7);
        check.due("5: phase after EDIT", Shown.phase(y), "EDIT");
    }

    private static void getStatement() {
        OffsetAssign x = new OffsetAssign(4, 1);
        check.due("8: count of none", x.getStatement(-1, 0), 0);
        check.due("8: statement 0 of none", x.getStatement(0, 0), NONE);
        x.addStatement(1, 3, 2, 1);
        x.addStatement(7, 0, MIN, MAX);
        x.addStatement(8, -5, 1, 99);
        check.due("8: statement 0", Shown.statement(x, 0), "1 3 2 1");
        check.due("8: statement 1", Shown.statement(x, 1), "7 0 -2147483648 2147483647");
        check.due("8: statement 2", Shown.statement(x, 2), "8 -5 1 99");
        for (int field : new int[] {MIN, -1, 0, 3, 4, MAX}) {
            check.due("8: count, field " + field, x.getStatement(-1, field), 3);
        }
        for (int index : new int[] {MIN, -2, 3, 32, MAX}) {
            check.due("8: index " + index, x.getStatement(index, 0), NONE);
        }
        for (int field : new int[] {MIN, -1, 4, MAX}) {
            check.due("8: field " + field, x.getStatement(0, field), NONE);
        }
        check.due("8: in RAN", Shown.statement(ran(), 1), "8 0 0 0");
        check.due("8: in COMPILED", Shown.statement(compiled(), 1), "8 0 0 0");
    }

    private static void getVariable() {
        for (OffsetAssign x : new OffsetAssign[] {ran(), compiled()}) {
            check.due("9: reg", x.getVariable(2, 0), 1);
            check.due("9: init", x.getVariable(0, 1), 4);
            for (int v : new int[] {MIN, -1, 3, 16, MAX}) {
                check.due("9: variable " + v, x.getVariable(v, 0), NONE);
                check.due("9: variable " + v, x.getVariable(v, 1), NONE);
            }
            for (int field : new int[] {MIN, -1, 2, MAX}) {
                check.due("9: field " + field, x.getVariable(0, field), NONE);
            }
        }
        OffsetAssign y = ran();
        y.getVariable(0, 0);
        y.getStatement(0, 0);
        check.due("9: phase kept", Shown.phase(y), "RAN");
    }
}
