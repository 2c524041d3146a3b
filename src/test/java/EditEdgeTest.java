/**
 * The boundary cases of promises 1 to 5: one test for each sentence of the document that names one.
 */
public final class EditEdgeTest {
    private static final int NONE = Integer.MIN_VALUE;
    private static final int MIN = Sample.MIN;
    private static final int MAX = Sample.MAX;
    private static final int[] OPS = {0, 1, 2, 3, 4, 5, 6, 7, 8};
    private static final Check check = new Check();

    public static void main(String[] args) {
        construction();
        clearing();
        adding();
        refusedAdding();
        settingRegisters();
        settingInits();
        check.end();
    }

    private static void construction() {
        check.test("1: a value below the least becomes the least", EditEdgeTest::belowTheLeast);
        check.test("1: a value above the greatest becomes the greatest",
                EditEdgeTest::aboveTheGreatest);
        check.test("1: V = numVars clamped to 2..16 and R = numRegs clamped to 1..4",
                EditEdgeTest::eachSizeInside);
        check.test("1: any int is accepted, including negative and extreme values",
                EditEdgeTest::extremeSizes);
        check.test("1: at the start no statements, every reg(v) = 0, every init(v) = 0, EDIT",
                EditEdgeTest::atTheStart);
        check.test("1: V and R never change afterwards", EditEdgeTest::sizesStay);
    }

    private static void clearing() {
        check.test("2: clear() is never refused", EditEdgeTest::clearNeverRefused);
        check.test("2: it removes all statements", EditEdgeTest::clearRemovesAll);
        check.test("2: the registers and initial values of all variables are kept",
                EditEdgeTest::clearKeeps);
        check.test("2: the phase becomes EDIT, whatever it was", EditEdgeTest::clearPhase);
        check.test("2: any layout, programs and run results are no longer available",
                EditEdgeTest::clearHides);
    }

    private static void adding() {
        check.test("3: the statement (op, dest, a, b) is appended exactly as given",
                EditEdgeTest::appendedAsGiven);
        check.test("3: the phase becomes EDIT", EditEdgeTest::addPhase);
        check.test("3: the answer is the previous count, 0..31", EditEdgeTest::addNumbers);
        check.test("3: arguments the op does not use are not tested",
                EditEdgeTest::unusedNotTested);
        check.test("3: for OP_CONST, a is a number and may be any int",
                EditEdgeTest::anyConstant);
    }

    private static void refusedAdding() {
        check.test("3: 32 statements already present: answers ERR_FULL", EditEdgeTest::full);
        check.test("3: op outside 0..8: answers ERR_OP", EditEdgeTest::opOutside);
        check.test("3: a variable the op uses outside 0..V-1: answers ERR_VAR",
                EditEdgeTest::variableOutside);
        check.test("3: tests in this order: full before op", EditEdgeTest::fullBeforeOp);
        check.test("3: tests in this order: full before variable",
                EditEdgeTest::fullBeforeVariable);
        check.test("3: tests in this order: op before variable", EditEdgeTest::opBeforeVariable);
        check.test("3: a refused call changes nothing (ERR_OP, ERR_VAR)",
                EditEdgeTest::refusedAddChangesNothing);
        check.test("3: a refused call changes nothing (ERR_FULL)",
                EditEdgeTest::fullChangesNothing);
    }

    private static void settingRegisters() {
        check.test("4: v is outside 0..V-1: answers false and changes nothing",
                EditEdgeTest::registerOfNoVariable);
        check.test("4: r is outside 0..R-1: answers false and changes nothing",
                EditEdgeTest::noRegister);
        check.test("4: otherwise sets reg(v) = r and answers true", EditEdgeTest::eachRegister);
        check.test("4: the phase becomes EDIT", EditEdgeTest::registerPhase);
        check.test("4: even if r equals the old value", EditEdgeTest::oldRegister);
        check.test("4: initial values and statements are unchanged",
                EditEdgeTest::registerKeeps);
    }

    private static void settingInits() {
        check.test("5: v is outside 0..V-1: answers false and changes nothing",
                EditEdgeTest::initOfNoVariable);
        check.test("5: sets init(v) = value (any int)", EditEdgeTest::anyInit);
        check.test("5: if the phase is RAN it becomes COMPILED, the run results are discarded",
                EditEdgeTest::initInRan);
        check.test("5: in phase RAN also where value equals the old one",
                EditEdgeTest::oldInitInRan);
        check.test("5: in phase COMPILED the phase stays as it was",
                EditEdgeTest::initInCompiled);
        check.test("5: in phase EDIT the phase stays as it was", EditEdgeTest::initInEdit);
        check.test("5: the layout and programs are not affected",
                EditEdgeTest::initKeepsPrograms);
    }

    // Promise 1

    private static void belowTheLeast() {
        for (int size : new int[] {MIN, MIN + 1, -65534, -16, -2, -1, 0, 1}) {
            hasSizes(size, 3, 2, 3);
        }
        for (int size : new int[] {MIN, MIN + 1, -65535, -4, -2, -1, 0}) {
            hasSizes(5, size, 5, 1);
        }
    }

    private static void aboveTheGreatest() {
        for (int size : new int[] {17, 18, 32, 256 + 2, 65536 + 2, MAX - 1, MAX}) {
            hasSizes(size, 3, 16, 3);
        }
        for (int size : new int[] {5, 6, 16, 256 + 1, 65536 + 1, MAX - 1, MAX}) {
            hasSizes(5, size, 5, 4);
        }
    }

    private static void eachSizeInside() {
        for (int vars = 2; vars <= 16; vars++) {
            for (int regs = 1; regs <= 4; regs++) {
                hasSizes(vars, regs, vars, regs);
            }
        }
    }

    private static void extremeSizes() {
        hasSizes(MIN, MIN, 2, 1);
        hasSizes(MIN, MAX, 2, 4);
        hasSizes(MAX, MIN, 16, 1);
        hasSizes(MAX, MAX, 16, 4);
        hasSizes(-1, -1, 2, 1);
        hasSizes(1, 0, 2, 1);
        hasSizes(17, 5, 16, 4);
    }

    private static void hasSizes(int numVars, int numRegs, int vars, int regs) {
        OffsetAssign x = new OffsetAssign(numVars, numRegs);
        sizesAre("new OffsetAssign(" + numVars + ", " + numRegs + ")", x, vars, regs);
    }

    /** Every call that tests v or r draws the same bounds. */
    private static void sizesAre(String what, OffsetAssign x, int vars, int regs) {
        check.due(what + ": variables", Shown.variables(x), vars);
        check.due(what + ": init of V-1", x.setInit(vars - 1, 1), true);
        check.due(what + ": init of V", x.setInit(vars, 1), false);
        check.due(what + ": register of V-1", x.setRegister(vars - 1, 0), true);
        check.due(what + ": register of V", x.setRegister(vars, 0), false);
        check.due(what + ": register R-1", x.setRegister(0, regs - 1), true);
        check.due(what + ": register R", x.setRegister(0, regs), false);
        check.due(what + ": statement of V", x.addStatement(8, 0, vars, 0), -3);
        check.due(what + ": statement of V-1", x.addStatement(8, 0, vars - 1, 0) >= 0, true);
        x.compile();
        check.due(what + ": address of V-1", x.getAddress(vars - 1) >= 0, true);
        check.due(what + ": address of V", x.getAddress(vars), -1);
    }

    private static void atTheStart() {
        for (int[] size : new int[][] {{MIN, MIN}, {2, 1}, {7, 3}, {16, 4}, {MAX, MAX}}) {
            OffsetAssign x = new OffsetAssign(size[0], size[1]);
            check.due("statements", x.getStatement(-1, 0), 0);
            check.due("statement 0", x.getStatement(0, 0), NONE);
            check.due("phase", Shown.phase(x), "EDIT");
            check.due("run", x.run(), -1);
            for (int v = 0; v < Shown.variables(x); v++) {
                check.due("reg(" + v + ")", x.getVariable(v, 0), 0);
                check.due("init(" + v + ")", x.getVariable(v, 1), 0);
            }
        }
    }

    private static void sizesStay() {
        for (String phase : Sample.PHASES) {
            sizesAre("sample in " + phase, Sample.in(phase), Sample.VARS, Sample.REGS);
            OffsetAssign cleared = Sample.in(phase);
            cleared.clear();
            sizesAre("cleared in " + phase, cleared, Sample.VARS, Sample.REGS);
            OffsetAssign refused = Sample.in(phase);
            refused.setRegister(15, 3);
            refused.setInit(15, 3);
            refused.addStatement(0, 15, 15, 15);
            sizesAre("refused in " + phase, refused, Sample.VARS, Sample.REGS);
        }
    }

    // Promise 2

    private static void clearNeverRefused() {
        OffsetAssign empty = new OffsetAssign(2, 1);
        empty.clear();
        check.due("of an empty block", Shown.everything(empty),
                Shown.everything(new OffsetAssign(2, 1)));
        OffsetAssign twice = Sample.in("RAN");
        twice.clear();
        twice.clear();
        check.due("twice", twice.getStatement(-1, 0), 0);
        for (String phase : Sample.PHASES) {
            OffsetAssign full = Sample.fullIn(phase);
            full.clear();
            check.due("of a full block in " + phase, full.getStatement(-1, 0), 0);
        }
    }

    private static void clearRemovesAll() {
        for (String phase : Sample.PHASES) {
            OffsetAssign x = Sample.fullIn(phase);
            x.clear();
            for (int i = 0; i < 32; i++) {
                check.due("statement " + i, x.getStatement(i, 0), NONE);
            }
            check.due("weight", x.getWeight(0, 1), 0);
            // All of the room is free again, and the first number is 0.
            for (int i = 0; i < 32; i++) {
                check.due("number", x.addStatement(8, 0, 1, 0), i);
            }
            check.due("full again", x.addStatement(8, 0, 1, 0), -1);
            check.due("loads of the new block", x.compile(), 1);
            check.due("accesses of the new block", x.getAddrLoads(0), 32);
        }
    }

    private static void clearKeeps() {
        for (String phase : Sample.PHASES) {
            OffsetAssign x = Sample.in(phase);
            x.clear();
            check.due("cleared in " + phase, Shown.entered(x),
                    "block v0 in 1 = 5 v1 in 0 = 7 v2 in 0 = -3");
        }
    }

    private static void clearPhase() {
        for (String phase : Sample.PHASES) {
            OffsetAssign x = Sample.in(phase);
            x.clear();
            check.due("after " + phase, Shown.phase(x), "EDIT");
            check.due("run after " + phase, x.run(), -1);
        }
        OffsetAssign x = Sample.in("RAN");
        x.setInit(0, 1);
        x.clear();
        check.due("after a setInit in RAN", Shown.phase(x), "EDIT");
    }

    private static void clearHides() {
        for (String phase : new String[] {"COMPILED", "RAN"}) {
            OffsetAssign x = Sample.in(phase);
            x.clear();
            for (int v = 0; v < Sample.VARS; v++) {
                check.due("address", x.getAddress(v), -1);
            }
            for (int which = 0; which <= 1; which++) {
                check.due("length", x.getCodeLength(which), -1);
                check.due("loads", x.getAddrLoads(which), -1);
                check.due("instruction", x.getInstr(which, 0, 0), NONE);
                check.due("values", Shown.values(x, which), "0 0 0");
                check.due("outputs", x.getOutputCount(which), -1);
                check.due("output", x.getOutput(which, 0), 0);
            }
        }
    }

    // Promise 3

    private static void appendedAsGiven() {
        OffsetAssign x = new OffsetAssign(3, 1);
        int[][] given = {
            {0, 0, 1, 2}, {5, 2, 2, 2}, {6, 1, 0, MIN}, {6, 1, 0, MAX}, {7, 2, MIN, MAX},
            {7, 0, MAX, MIN}, {8, MIN, 2, MAX}, {8, MAX, 0, MIN}, {8, -1, 1, 3}
        };
        for (int i = 0; i < given.length; i++) {
            int[] s = given[i];
            x.addStatement(s[0], s[1], s[2], s[3]);
        }
        for (int i = 0; i < given.length; i++) {
            int[] s = given[i];
            check.due("statement " + i, Shown.statement(x, i),
                    s[0] + " " + s[1] + " " + s[2] + " " + s[3]);
        }
    }

    private static void addPhase() {
        for (String phase : Sample.PHASES) {
            for (int op : OPS) {
                OffsetAssign x = Sample.in(phase);
                check.due("number", x.addStatement(op, 0, 1, 2), Sample.STATEMENTS);
                check.due("op " + op + " in " + phase, Shown.phase(x), "EDIT");
                check.due("run", x.run(), -1);
            }
        }
    }

    private static void addNumbers() {
        OffsetAssign x = new OffsetAssign(2, 1);
        for (int i = 0; i < 32; i++) {
            x.addStatement(9, 0, 0, 0);
            x.addStatement(0, 0, 0, 2);
            check.due("between refusals", x.addStatement(i % 9, 0, 1, 0), i);
            x.compile();
            check.due("count", x.getStatement(-1, 0), i + 1);
        }
    }

    private static void unusedNotTested() {
        for (int any : Sample.ANY_INTS) {
            accepts(6, 1, 2, any);
            accepts(7, 1, 2, any);
            accepts(8, any, 2, 0);
            accepts(8, 0, 2, any);
            accepts(8, any, 2, any);
        }
    }

    private static void anyConstant() {
        for (int any : Sample.ANY_INTS) {
            accepts(7, 1, any, 0);
            accepts(7, 1, any, any);
        }
    }

    private static void accepts(int op, int dest, int a, int b) {
        String call = "addStatement(" + op + ", " + dest + ", " + a + ", " + b + ")";
        OffsetAssign x = new OffsetAssign(3, 1);
        check.due(call, x.addStatement(op, dest, a, b), 0);
        check.due(call + " count", x.getStatement(-1, 0), 1);
    }

    private static void full() {
        OffsetAssign x = new OffsetAssign(2, 1);
        for (int i = 0; i < 31; i++) {
            x.addStatement(8, 0, 0, 0);
        }
        check.due("with 31 present", x.addStatement(8, 0, 0, 0), 31);
        for (int op : OPS) {
            check.due("with 32 present, op " + op, x.addStatement(op, 0, 0, 0), -1);
        }
        check.due("count", x.getStatement(-1, 0), 32);
    }

    private static void opOutside() {
        for (int op : Sample.outside(9)) {
            check.due("op " + op, new OffsetAssign(3, 1).addStatement(op, 0, 0, 0), -2);
        }
        for (int op : OPS) {
            check.due("op " + op, new OffsetAssign(3, 1).addStatement(op, 0, 0, 0), 0);
        }
    }

    private static void variableOutside() {
        for (int vars : new int[] {2, 3, 16}) {
            for (int op : OPS) {
                for (int wrong : Sample.outside(vars)) {
                    testsVariable(vars, op, 0, wrong, op != 8);
                    testsVariable(vars, op, 1, wrong, op != 7);
                    testsVariable(vars, op, 2, wrong, op <= 5);
                }
                for (int place = 0; place <= 2; place++) {
                    testsVariable(vars, op, place, 0, false);
                    testsVariable(vars, op, place, vars - 1, false);
                }
            }
        }
    }

    /** The other arguments are right, so the answer hangs on this one alone. */
    private static void testsVariable(int vars, int op, int place, int value, boolean refuses) {
        int[] given = {1, 1, 1};
        given[place] = value;
        OffsetAssign x = new OffsetAssign(vars, 1);
        String call = "addStatement(" + op + ", " + given[0] + ", " + given[1] + ", " + given[2]
                + ") with V = " + vars;
        check.due(call, x.addStatement(op, given[0], given[1], given[2]), refuses ? -3 : 0);
    }

    private static void fullBeforeOp() {
        for (int op : Sample.outside(9)) {
            check.due("op " + op, Sample.fullIn("EDIT").addStatement(op, 0, 0, 0), -1);
        }
    }

    private static void fullBeforeVariable() {
        for (int op : OPS) {
            check.due("op " + op, Sample.fullIn("EDIT").addStatement(op, -1, -1, 3), -1);
        }
        check.due("op 9 too", Sample.fullIn("EDIT").addStatement(9, -1, -1, 3), -1);
    }

    private static void opBeforeVariable() {
        for (int op : Sample.outside(9)) {
            check.due("op " + op, Sample.in("EDIT").addStatement(op, -1, 3, MAX), -2);
        }
    }

    private static void refusedAddChangesNothing() {
        Sample.changesNothing(check, "op -1", x -> x.addStatement(-1, 0, 1, 2), -2);
        Sample.changesNothing(check, "op 9", x -> x.addStatement(9, 0, 1, 2), -2);
        for (int op : OPS) {
            // As many of the arguments as may be are right: a call may not take them in part.
            String call = "op " + op + ", wrong variable";
            if (op <= 5) {
                Sample.changesNothing(check, call, x -> x.addStatement(op, 0, 1, 3), -3);
            }
            if (op <= 6) {
                Sample.changesNothing(check, call, x -> x.addStatement(op, 3, 1, 2), -3);
            }
            Sample.changesNothing(check, call, x -> x.addStatement(op, -1, -1, 2), -3);
        }
    }

    private static void fullChangesNothing() {
        for (String phase : Sample.PHASES) {
            for (int op : new int[] {0, 6, 7, 8, 9}) {
                OffsetAssign x = Sample.fullIn(phase);
                check.due("op " + op, x.addStatement(op, 1, 0, 2), -1);
                Sample.sameFromNowOn(check, "op " + op + " in " + phase, x, Sample.fullIn(phase));
            }
        }
    }

    // Promise 4

    private static int setRegister(OffsetAssign x, int v, int r) {
        return x.setRegister(v, r) ? 1 : 0;
    }

    private static void registerOfNoVariable() {
        for (int v : Sample.outside(Sample.VARS)) {
            String call = "setRegister(" + v + ", 1)";
            Sample.changesNothing(check, call, x -> setRegister(x, v, 1), 0);
        }
        check.due("V = 16, v = 16", new OffsetAssign(16, 4).setRegister(16, 0), false);
        check.due("V = 2, v = 2", new OffsetAssign(2, 4).setRegister(2, 0), false);
    }

    private static void noRegister() {
        for (int r : Sample.outside(Sample.REGS)) {
            String call = "setRegister(2, " + r + ")";
            Sample.changesNothing(check, call, x -> setRegister(x, 2, r), 0);
        }
        check.due("R = 4, r = 4", new OffsetAssign(16, 4).setRegister(0, 4), false);
        check.due("R = 1, r = 1", new OffsetAssign(16, 1).setRegister(0, 1), false);
        Sample.changesNothing(check, "both outside", x -> setRegister(x, 3, 2), 0);
        Sample.changesNothing(check, "both negative", x -> setRegister(x, -1, -1), 0);
    }

    private static void eachRegister() {
        OffsetAssign x = new OffsetAssign(16, 4);
        for (int v = 0; v < 16; v++) {
            check.due("set " + v, x.setRegister(v, (v + v / 4) % 4), true);
        }
        for (int v = 0; v < 16; v++) {
            check.due("reg(" + v + ")", x.getVariable(v, 0), (v + v / 4) % 4);
        }
        for (int r = 3; r >= 0; r--) {
            check.due("set to " + r, x.setRegister(15, r), true);
            check.due("reg(15)", x.getVariable(15, 0), r);
            check.due("reg(14)", x.getVariable(14, 0), 1);
        }
    }

    private static void registerPhase() {
        for (String phase : Sample.PHASES) {
            OffsetAssign x = Sample.in(phase);
            check.due("set", x.setRegister(0, 0), true);
            check.due("after " + phase, Shown.phase(x), "EDIT");
            check.due("run", x.run(), -1);
        }
    }

    private static void oldRegister() {
        for (String phase : Sample.PHASES) {
            for (int v = 0; v < Sample.VARS; v++) {
                OffsetAssign x = Sample.in(phase);
                int old = x.getVariable(v, 0);
                check.due("set " + v, x.setRegister(v, old), true);
                check.due("after " + phase, Shown.phase(x), "EDIT");
                check.due("reg(" + v + ")", x.getVariable(v, 0), old);
            }
        }
    }

    private static void registerKeeps() {
        for (String phase : Sample.PHASES) {
            OffsetAssign x = Sample.in(phase);
            x.setRegister(0, 0);
            x.setRegister(2, 1);
            check.due("after " + phase, Shown.entered(x),
                    Sample.ENTERED.replace("v0 in 1", "v0 in 0").replace("v2 in 0", "v2 in 1"));
        }
    }

    // Promise 5

    private static int setInit(OffsetAssign x, int v, int value) {
        return x.setInit(v, value) ? 1 : 0;
    }

    private static void initOfNoVariable() {
        for (int v : Sample.outside(Sample.VARS)) {
            String call = "setInit(" + v + ", 6)";
            Sample.changesNothing(check, call, x -> setInit(x, v, 6), 0);
        }
        check.due("V = 16, v = 16", new OffsetAssign(16, 4).setInit(16, 6), false);
        check.due("V = 2, v = 2", new OffsetAssign(2, 4).setInit(2, 6), false);
    }

    private static void anyInit() {
        OffsetAssign x = new OffsetAssign(16, 1);
        for (int any : Sample.ANY_INTS) {
            for (int v : new int[] {0, 15}) {
                check.due("set " + v, x.setInit(v, any), true);
                check.due("init(" + v + ")", x.getVariable(v, 1), any);
            }
        }
        check.due("init(1)", x.getVariable(1, 1), 0);
    }

    private static void initInRan() {
        for (int v = 0; v < Sample.VARS; v++) {
            OffsetAssign x = Sample.in("RAN");
            check.due("set " + v, x.setInit(v, 1000), true);
            discarded(x);
        }
    }

    private static void oldInitInRan() {
        for (int v = 0; v < Sample.VARS; v++) {
            OffsetAssign x = Sample.in("RAN");
            check.due("set " + v, x.setInit(v, x.getVariable(v, 1)), true);
            discarded(x);
            check.due("block", Shown.entered(x), Sample.ENTERED);
        }
    }

    private static void discarded(OffsetAssign x) {
        check.due("phase", Shown.phase(x), "COMPILED");
        for (int which = 0; which <= 1; which++) {
            check.due("values", Shown.values(x, which), "0 0 0");
            check.due("outputs", x.getOutputCount(which), -1);
            check.due("output", x.getOutput(which, 0), 0);
        }
    }

    private static void initInCompiled() {
        OffsetAssign x = Sample.in("COMPILED");
        check.due("set", x.setInit(2, 8), true);
        check.due("phase", Shown.phase(x), "COMPILED");
        check.due("init(2)", x.getVariable(2, 1), 8);
        check.due("run", x.run(), 2);
    }

    private static void initInEdit() {
        OffsetAssign x = Sample.in("EDIT");
        check.due("set", x.setInit(2, 8), true);
        check.due("phase", Shown.phase(x), "EDIT");
        check.due("init(2)", x.getVariable(2, 1), 8);
        check.due("run", x.run(), -1);
    }

    private static void initKeepsPrograms() {
        for (String phase : new String[] {"COMPILED", "RAN"}) {
            OffsetAssign x = Sample.in(phase);
            x.setInit(0, MIN);
            check.due("layout after " + phase, Shown.addresses(x), Sample.ADDRESSES);
            check.due("naive after " + phase, Shown.code(x, 0), Sample.NAIVE);
            check.due("optimised after " + phase, Shown.code(x, 1), Sample.OPTIMISED);
            check.due("loads after " + phase, x.getAddrLoads(1), Sample.OPTIMISED_LOADS);
        }
    }
}
