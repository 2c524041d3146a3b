/** Promises 6 and 10 to 14: weights, layout and the two programs. */
public final class CompileTest {
    private static final int NONE = Integer.MIN_VALUE;
    private static final int MIN = Integer.MIN_VALUE;
    private static final int MAX = Integer.MAX_VALUE;
    private static final Check check = new Check();

    public static void main(String[] args) {
        layouts();
        layoutOfRegisters();
        loadsAndSteps();
        codeOfEachOp();
        codeOfRegisters();
        emptyBlock();
        fullBlock();
        compileAgain();
        weights();
        weightsWithoutCompile();
        refusals();
        check.end();
    }

    /** An object whose access sequence is the given one, with every variable in register 0. */
    private static OffsetAssign reading(int vars, int... sequence) {
        OffsetAssign x = new OffsetAssign(vars, 4);
        for (int v : sequence) {
            x.addStatement(8, 0, v, 0);
        }
        return x;
    }

    private static void laysOut(String what, OffsetAssign x, int loads, String addresses) {
        check.due("6: loads, " + what, x.compile(), loads);
        check.due("6: layout, " + what, Shown.addresses(x), addresses);
        check.due("13: loads, " + what, x.getAddrLoads(1), loads);
    }

    private static void layouts() {
        laysOut("no access", reading(3), 0, "0 1 2");
        laysOut("one access", reading(3, 1), 1, "0 1 2");
        laysOut("the same variable again", reading(3, 1, 1, 1), 1, "0 1 2");
        // Path 2-0-3 has the smallest variable inside, and comes before 1 alone.
        laysOut("smallest inside", reading(4, 3, 0, 2, 0, 3), 1, "1 3 0 2");
        // Path 3-1-2 is listed from 2.
        laysOut("smaller end first", reading(4, 3, 1, 3, 1, 2), 1, "0 2 1 3");
        // 0-1 weighs 3, 1-2 2 and 0-2 1: the last would close a ring.
        laysOut("no ring", reading(3, 2, 0, 1, 0, 1, 2, 1), 2, "0 1 2");
        // 0-2 and 0-3 weigh 2, so 0-1 finds no room at 0.
        laysOut("two edges at most", reading(4, 0, 2, 0, 3, 0, 1), 2, "1 3 0 2");
        // All weigh 1: 0-1 and 0-2 come before 1-2.
        laysOut("tie by the smaller", reading(3, 0, 1, 2, 0), 2, "1 0 2");
        // All weigh 1: 0-1 and 0-2 come before 0-3, then 2-3.
        laysOut("tie by the greater", reading(4, 1, 0, 2, 3, 0), 2, "1 0 2 3");
        // 2-3 weighs 3 and 0-1 1: two paths; the heavier one has no precedence in memory.
        laysOut("paths by smallest", reading(4, 2, 3, 2, 3, 0, 1), 1, "1 0 3 2");
        laysOut("one long path", reading(6, 5, 3, 1, 0, 2, 4), 1, "2 3 1 4 0 5");
    }

    private static void layoutOfRegisters() {
        // Register 0 holds 3, register 1 nothing, register 2 holds 0, 2, 4, register 3 holds 1.
        OffsetAssign x = reading(5, 0, 3, 4, 1, 0, 3, 4, 2, 1);
        x.setRegister(0, 2);
        x.setRegister(1, 3);
        x.setRegister(2, 2);
        x.setRegister(4, 2);
        check.due("10: within register 2", x.getWeight(0, 4), 3);
        check.due("10: across registers", x.getWeight(0, 3), 0);
        // Register 2 has 0-4 of weight 3 and 2-4 of weight 1: path 0-4-2.
        laysOut("registers in order", x, 3, "1 4 3 0 2");
    }

    private static void loadsAndSteps() {
        OffsetAssign x = reading(3, 0, 1, 2, 1, 1, 0, 2);
        // 0-1 and 1-2 weigh 2, so the layout is 0 1 2 and only the last access lies too far.
        laysOut("steps", x, 2, "0 1 2");
        check.due("6: steps", Shown.code(x, 1), "LDAR 0 0, LOAD 0 1, OUT 0 0, LOAD 0 1, OUT 0 0, "
                + "LOAD 0 -1, OUT 0 0, LOAD 0 0, OUT 0 0, LOAD 0 -1, OUT 0 0, LOAD 0 0, OUT 0 0, "
                + "LDAR 0 2, LOAD 0 0, OUT 0 0");
        check.due("13: naive loads", x.getAddrLoads(0), 7);
        check.due("12: naive length", x.getCodeLength(0), 21);
        check.due("12: optimised length", x.getCodeLength(1), 16);
    }

    private static void codeOfEachOp() {
        String[] names = {"ADD", "SUB", "MUL", "AND", "OR", "XOR"};
        for (int op = 0; op <= 5; op++) {
            OffsetAssign x = new OffsetAssign(3, 1);
            x.addStatement(op, 2, 0, 1);
            x.compile();
            check.due("6: naive op " + op, Shown.code(x, 0), "LDAR 0 0, LOAD 0 0, LDAR 0 1, "
                    + names[op] + " 0 0, LDAR 0 2, STORE 0 0");
            check.due("6: optimised op " + op, Shown.code(x, 1),
                    "LDAR 0 0, LOAD 0 1, " + names[op] + " 0 1, STORE 0 0");
        }
        OffsetAssign copy = new OffsetAssign(3, 1);
        copy.addStatement(6, 1, 2, 77);
        copy.compile();
        check.due("6: naive copy", Shown.code(copy, 0),
                "LDAR 0 2, LOAD 0 0, LDAR 0 1, STORE 0 0");
        check.due("6: optimised copy", Shown.code(copy, 1), "LDAR 0 2, LOAD 0 -1, STORE 0 0");
        OffsetAssign constant = new OffsetAssign(3, 2);
        constant.setRegister(1, 1);
        constant.addStatement(7, 1, MIN, -9);
        constant.compile();
        check.due("6: naive constant", Shown.code(constant, 0),
                "LDI 0 -2147483648, LDAR 1 1, STORE 1 0");
        check.due("6: optimised constant", Shown.code(constant, 1),
                "LDI 0 -2147483648, LDAR 1 2, STORE 1 0");
        OffsetAssign out = new OffsetAssign(3, 2);
        out.setRegister(0, 1);
        out.addStatement(8, 99, 0, 99);
        out.compile();
        check.due("6: naive out", Shown.code(out, 0), "LDAR 1 0, LOAD 1 0, OUT 0 0");
        check.due("6: optimised out", Shown.code(out, 1), "LDAR 1 2, LOAD 1 0, OUT 0 0");
    }

    private static void codeOfRegisters() {
        OffsetAssign x = reading(4, 0, 1, 2, 3);
        x.setRegister(0, 1);
        x.setRegister(2, 1);
        laysOut("two registers", x, 2, "2 0 3 1");
        check.due("6: two registers", Shown.code(x, 1), "LDAR 1 2, LOAD 1 1, OUT 0 0, LDAR 0 0, "
                + "LOAD 0 1, OUT 0 0, LOAD 1 0, OUT 0 0, LOAD 0 0, OUT 0 0");
        check.due("6: naive, two registers", Shown.code(x, 0), "LDAR 1 0, LOAD 1 0, OUT 0 0, "
                + "LDAR 0 1, LOAD 0 0, OUT 0 0, LDAR 1 2, LOAD 1 0, OUT 0 0, LDAR 0 3, "
                + "LOAD 0 0, OUT 0 0");
    }

    private static void emptyBlock() {
        OffsetAssign x = new OffsetAssign(2, 2);
        x.setRegister(0, 1);
        laysOut("empty block", x, 0, "1 0");
        for (int which = 0; which <= 1; which++) {
            check.due("12: empty block", x.getCodeLength(which), 0);
            check.due("13: empty block", x.getAddrLoads(which), 0);
            check.due("14: empty block", x.getInstr(which, 0, 0), NONE);
        }
    }

    private static void fullBlock() {
        // Accesses all over 16 variables, so that the optimised program often has to load, too.
        OffsetAssign x = new OffsetAssign(16, 1);
        for (int i = 0; i < 32; i++) {
            x.addStatement(0, (i * 7 + 3) % 16, (i * 5) % 16, (i * 11 + 8) % 16);
        }
        check.due("6: full block", x.compile(), x.getAddrLoads(1));
        check.due("12: full block", x.getCodeLength(0), 192);
        check.due("13: full block", x.getAddrLoads(0), 96);
        check.due("12: full block, optimised", x.getCodeLength(1), 96 + x.getAddrLoads(1));
        check.due("14: last", x.getInstr(0, 191, 0), 8);
        check.due("14: after the last", x.getInstr(0, 192, 0), NONE);

        // The greatest weight there can be: 96 accesses by turns of two variables.
        OffsetAssign y = new OffsetAssign(3, 1);
        for (int i = 0; i < 16; i++) {
            y.addStatement(1, 2, 2, 0);
            y.addStatement(1, 0, 0, 2);
        }
        check.due("10: greatest weight", y.getWeight(0, 2), 95);
        laysOut("greatest weight", y, 1, "0 2 1");
    }

    private static void compileAgain() {
        OffsetAssign x = reading(3, 0, 2);
        x.setInit(1, 8);
        laysOut("first", x, 1, "0 2 1");
        laysOut("again in COMPILED", x, 1, "0 2 1");
        x.run();
        laysOut("again in RAN", x, 1, "0 2 1");
        check.due("6: phase", Shown.phase(x), "COMPILED");
        check.due("6: results discarded", x.getOutputCount(1), -1);
        check.due("6: init kept", x.getVariable(1, 1), 8);
        check.due("6: statement kept", Shown.statement(x, 1), "8 0 2 0");
        x.setRegister(2, 1);
        laysOut("other registers", x, 2, "0 1 2");
        check.due("6: reg kept", x.getVariable(2, 0), 1);
        x.clear();
        x.addStatement(8, 0, 1, 0);
        laysOut("shorter block", x, 1, "0 1 2");
        check.due("12: shorter block", x.getCodeLength(0), 3);
        check.due("14: nothing left over", x.getInstr(0, 3, 0), NONE);
    }

    private static void weights() {
        OffsetAssign x = new OffsetAssign(4, 2);
        x.addStatement(0, 2, 0, 1);   // 0 1 2
        x.addStatement(6, 1, 2, 3);   // 2 1
        x.addStatement(7, 2, 3, 3);   // 2
        x.addStatement(8, 3, 0, 3);   // 0
        check.due("10: 0 and 1", x.getWeight(0, 1), 1);
        check.due("10: 1 and 2", x.getWeight(1, 2), 3);
        check.due("10: 2 and 1", x.getWeight(2, 1), 3);
        check.due("10: 0 and 2", x.getWeight(0, 2), 1);
        check.due("10: the same twice", x.getWeight(2, 2), 0);
        check.due("10: never accessed", x.getWeight(0, 3), 0);
        for (int v : new int[] {MIN, -1, 4, 16, MAX}) {
            check.due("10: 0 and " + v, x.getWeight(0, v), 0);
            check.due("10: " + v + " and 0", x.getWeight(v, 0), 0);
            check.due("10: " + v + " twice", x.getWeight(v, v), 0);
        }
    }

    private static void weightsWithoutCompile() {
        OffsetAssign x = reading(3, 0, 1, 0, 2, 1);
        x.compile();
        check.due("10: in COMPILED", x.getWeight(0, 1), 2);
        x.run();
        check.due("10: in RAN", x.getWeight(0, 1), 2);
        check.due("10: phase kept", Shown.phase(x), "RAN");
        x.setRegister(2, 3);
        check.due("10: new register, without compile", x.getWeight(0, 1), 3);
        check.due("10: other register", x.getWeight(0, 2), 0);
        x.addStatement(8, 0, 0, 0);
        check.due("10: new statement, without compile", x.getWeight(1, 0), 4);
    }

    private static void refusals() {
        OffsetAssign x = reading(3, 0, 1);
        refusesAll(x, "in EDIT", 0, 0);
        x.compile();
        for (int v : new int[] {MIN, -1, 3, 16, MAX}) {
            check.due("11: variable " + v, x.getAddress(v), -1);
        }
        for (int which : new int[] {MIN, -1, 2, MAX}) {
            refusesAll(x, "which " + which, which, -1);
        }
        for (int index : new int[] {MIN, -1, 6, 192, MAX}) {
            check.due("14: index " + index, x.getInstr(0, index, 0), NONE);
        }
        check.due("14: index past the optimised", x.getInstr(1, 5, 0), NONE);
        for (int field : new int[] {MIN, -1, 3, MAX}) {
            check.due("14: field " + field, x.getInstr(0, 0, field), NONE);
        }
        x.run();
        check.due("11: in RAN", Shown.addresses(x), "0 1 2");
        check.due("12: in RAN", x.getCodeLength(1), 5);
        check.due("13: in RAN", x.getAddrLoads(1), 1);
        check.due("14: in RAN", x.getInstr(0, 3, 2), 1);
        check.due("14: phase kept", Shown.phase(x), "RAN");
        x.setRegister(0, 0);
        refusesAll(x, "in EDIT after RAN", 0, 0);
    }

    private static void refusesAll(OffsetAssign x, String when, int which, int v) {
        check.due("11: " + when, x.getAddress(v), -1);
        check.due("12: " + when, x.getCodeLength(which), -1);
        check.due("13: " + when, x.getAddrLoads(which), -1);
        check.due("14: " + when, x.getInstr(which, 0, 0), NONE);
    }
}
