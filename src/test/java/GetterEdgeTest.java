import java.util.function.ToIntFunction;

/**
 * The boundary cases of promises 8 to 17, the getters: one test for each sentence of the document
 * that names one. The sample's answers in each phase were worked out by hand.
 */
public final class GetterEdgeTest {
    private static final int NONE = Integer.MIN_VALUE;
    private static final int[] PROGRAMS = {0, 1};
    private static final String[] AFTER_COMPILE = {"COMPILED", "RAN"};
    private static final Check check = new Check();

    public static void main(String[] args) {
        statements();
        variables();
        weights();
        addresses();
        lengthsAndLoads();
        instructions();
        finalValues();
        outputs();
        check.end();
    }

    private static void statements() {
        check.test("8: index = -1 answers the number of statements (0..32)",
                GetterEdgeTest::countOfStatements);
        check.test("8: index = -1: whatever field is", GetterEdgeTest::countOfAnyField);
        check.test("8: for index in 0..count-1 and field 0..3 as stored",
                GetterEdgeTest::eachStatement);
        check.test("8: anything else answers NONE: index", GetterEdgeTest::statementOutside);
        check.test("8: anything else answers NONE: field",
                GetterEdgeTest::statementFieldOutside);
        check.test("8: works in every phase and changes nothing",
                GetterEdgeTest::getStatementChangesNothing);
    }

    private static void variables() {
        check.test("9: for v in 0..V-1, field 0 answers reg(v) and field 1 init(v)",
                GetterEdgeTest::eachVariable);
        check.test("9: anything else answers NONE: v", GetterEdgeTest::variableOutside);
        check.test("9: anything else answers NONE: field",
                GetterEdgeTest::variableFieldOutside);
        check.test("9: works in every phase and changes nothing",
                GetterEdgeTest::getVariableChangesNothing);
    }

    private static void weights() {
        check.test("10: answers, in any phase, w(u,v)", GetterEdgeTest::weightInAnyPhase);
        check.test("10: from the current block and registers", GetterEdgeTest::currentWeight);
        check.test("10: 0 if u or v is outside 0..V-1", GetterEdgeTest::weightOutside);
        check.test("10: 0 if u = v", GetterEdgeTest::weightOfOne);
        check.test("10: 0 if reg(u) != reg(v)", GetterEdgeTest::weightAcross);
        check.test("10: two consecutive accesses of the same variable add to no weight",
                GetterEdgeTest::weightOfRepeats);
        check.test("10: changes nothing", GetterEdgeTest::getWeightChangesNothing);
    }

    private static void addresses() {
        check.test("11: phase EDIT answers -1", GetterEdgeTest::addressInEdit);
        check.test("11: v outside 0..V-1 answers -1", GetterEdgeTest::addressOutside);
        check.test("11: address(v) of the layout made by the last compile",
                GetterEdgeTest::eachAddress);
        check.test("11: changes nothing", GetterEdgeTest::getAddressChangesNothing);
    }

    private static void lengthsAndLoads() {
        check.test("12: phase EDIT answers -1", GetterEdgeTest::lengthInEdit);
        check.test("12: which not 0 or 1 answers -1", GetterEdgeTest::lengthOfNoProgram);
        check.test("12: the number of instructions of program which, in 0..192",
                GetterEdgeTest::eachLength);
        check.test("12: changes nothing", GetterEdgeTest::getCodeLengthChangesNothing);
        check.test("13: phase EDIT answers -1", GetterEdgeTest::loadsInEdit);
        check.test("13: which not 0 or 1 answers -1", GetterEdgeTest::loadsOfNoProgram);
        check.test("13: for program 0 the number of accesses, for 1 the answer of compile",
                GetterEdgeTest::eachLoads);
        check.test("13: changes nothing", GetterEdgeTest::getAddrLoadsChangesNothing);
    }

    private static void instructions() {
        check.test("14: phase EDIT answers NONE", GetterEdgeTest::instructionInEdit);
        check.test("14: which not 0 or 1 answers NONE",
                GetterEdgeTest::instructionOfNoProgram);
        check.test("14: index outside 0..length-1 of that program answers NONE",
                GetterEdgeTest::instructionOutside);
        check.test("14: field outside 0..2 answers NONE",
                GetterEdgeTest::instructionFieldOutside);
        check.test("14: field 0 its opcode, field 1 its register, field 2 its operand",
                GetterEdgeTest::eachInstruction);
        check.test("14: changes nothing", GetterEdgeTest::getInstrChangesNothing);
    }

    private static void finalValues() {
        check.test("15: phase not RAN answers 0", GetterEdgeTest::valueNotRan);
        check.test("15: phase not RAN, after a setInit that discarded the run results",
                GetterEdgeTest::valueAfterSetInit);
        check.test("15: which not 0 or 1 answers 0", GetterEdgeTest::valueOfNoProgram);
        check.test("15: v outside 0..V-1 answers 0", GetterEdgeTest::valueOutside);
        check.test("15: the final content of cell v for program 0, cell address(v) for 1",
                GetterEdgeTest::eachValue);
        check.test("15: changes nothing", GetterEdgeTest::getVarChangesNothing);
    }

    private static void outputs() {
        check.test("16: phase not RAN answers -1", GetterEdgeTest::countNotRan);
        check.test("16: phase not RAN, after a setInit that discarded the run results",
                GetterEdgeTest::countAfterSetInit);
        check.test("16: which not 0 or 1 answers -1", GetterEdgeTest::countOfNoProgram);
        check.test("16: the number of values program which output in the last run",
                GetterEdgeTest::eachCount);
        check.test("16: changes nothing", GetterEdgeTest::getOutputCountChangesNothing);
        check.test("17: phase not RAN answers 0", GetterEdgeTest::outputNotRan);
        check.test("17: phase not RAN, after a setInit that discarded the run results",
                GetterEdgeTest::outputAfterSetInit);
        check.test("17: which not 0 or 1 answers 0", GetterEdgeTest::outputOfNoProgram);
        check.test("17: index outside 0..count-1 answers 0", GetterEdgeTest::outputOutside);
        check.test("17: the value output at position index (0 first) in the last run",
                GetterEdgeTest::eachOutput);
        check.test("17: changes nothing", GetterEdgeTest::getOutputChangesNothing);
    }

    private static void answersInAll(String[] phases, String call,
            ToIntFunction<OffsetAssign> made, int due) {
        for (String phase : phases) {
            check.due(call + " in " + phase, made.applyAsInt(Sample.in(phase)), due);
        }
    }

    /** Objects in EDIT that have never been compiled, or have been and left what was made. */
    private static OffsetAssign[] inEdit() {
        OffsetAssign cleared = Sample.in("RAN");
        cleared.clear();
        OffsetAssign added = Sample.in("COMPILED");
        added.addStatement(8, 0, 0, 0);
        OffsetAssign addedAfterRun = Sample.in("RAN");
        addedAfterRun.addStatement(8, 0, 0, 0);
        OffsetAssign set = Sample.in("COMPILED");
        set.setRegister(0, 1);
        OffsetAssign setAfterRun = Sample.in("RAN");
        setAfterRun.setRegister(0, 1);
        OffsetAssign setInit = Sample.in("EDIT");
        setInit.setInit(0, 5);
        return new OffsetAssign[] {
            new OffsetAssign(3, 2), Sample.in("EDIT"), cleared, added, addedAfterRun, set,
            setAfterRun, setInit
        };
    }

    private static void answersInEdit(String call, ToIntFunction<OffsetAssign> made, int due) {
        OffsetAssign[] all = inEdit();
        for (int i = 0; i < all.length; i++) {
            check.due(call + " of object " + i, made.applyAsInt(all[i]), due);
        }
    }

    /** Besides those in EDIT, objects that are compiled, before a run and after one. */
    private static void answersWithoutRun(String call, ToIntFunction<OffsetAssign> made,
            int due) {
        answersInEdit(call, made, due);
        check.due(call + " in COMPILED", made.applyAsInt(Sample.in("COMPILED")), due);
        OffsetAssign again = Sample.in("RAN");
        again.compile();
        check.due(call + " compiled again", made.applyAsInt(again), due);
    }

    private static void answersAfterSetInit(String call, ToIntFunction<OffsetAssign> made,
            int due) {
        for (int v = 0; v < Sample.VARS; v++) {
            OffsetAssign x = Sample.in("RAN");
            x.setInit(v, x.getVariable(v, 1));
            check.due(call + " after setInit of " + v, made.applyAsInt(x), due);
        }
    }

    /** The calls stand for the getter's every kind of answer; their own answers do not matter. */
    private static void changesNothing(String call, ToIntFunction<OffsetAssign> made) {
        for (String phase : Sample.PHASES) {
            OffsetAssign x = Sample.in(phase);
            made.applyAsInt(x);
            Sample.sameFromNowOn(check, call + " in " + phase, x, Sample.in(phase));
        }
    }

    // Promise 8

    private static void countOfStatements() {
        OffsetAssign x = new OffsetAssign(2, 1);
        check.due("of none", x.getStatement(-1, 0), 0);
        for (int i = 1; i <= 32; i++) {
            x.addStatement(i % 9, 0, 1, 0);
            check.due("of " + i, x.getStatement(-1, 0), i);
        }
        x.addStatement(0, 0, 0, 0);
        check.due("after a refusal", x.getStatement(-1, 0), 32);
        x.compile();
        check.due("compiled", x.getStatement(-1, 0), 32);
        x.run();
        check.due("run", x.getStatement(-1, 0), 32);
        x.clear();
        check.due("cleared", x.getStatement(-1, 0), 0);
    }

    private static void countOfAnyField() {
        for (int field : Sample.outside(0)) {
            String call = "getStatement(-1, " + field + ")";
            answersInAll(Sample.PHASES, call, x -> x.getStatement(-1, field), Sample.STATEMENTS);
            check.due(call, new OffsetAssign(2, 1).getStatement(-1, field), 0);
            check.due(call, Sample.fullIn("EDIT").getStatement(-1, field), 32);
        }
    }

    private static void eachStatement() {
        for (String phase : Sample.PHASES) {
            OffsetAssign x = Sample.in(phase);
            check.due("first in " + phase, Shown.statement(x, 0), "0 2 0 1");
            check.due("last in " + phase, Shown.statement(x, 3), "8 -1 0 16");
            OffsetAssign full = Sample.fullIn(phase);
            for (int i = 0; i < 32; i++) {
                check.due("full in " + phase, Shown.statement(full, i),
                        i % 6 + " " + i % 3 + " " + (i + 1) % 3 + " 0");
            }
        }
    }

    private static void statementOutside() {
        for (int index : Sample.outside(Sample.STATEMENTS)) {
            for (int field = 0; field <= 3 && index != -1; field++) {
                int f = field;
                answersInAll(Sample.PHASES, "getStatement(" + index + ", " + f + ")",
                        x -> x.getStatement(index, f), NONE);
            }
        }
        check.due("0 of none", new OffsetAssign(2, 1).getStatement(0, 0), NONE);
        for (int index : Sample.outside(32)) {
            if (index != -1) {
                check.due(index + " of 32", Sample.fullIn("EDIT").getStatement(index, 0), NONE);
            }
        }
    }

    private static void statementFieldOutside() {
        for (int field : Sample.outside(4)) {
            for (int index = 0; index < Sample.STATEMENTS; index++) {
                int i = index;
                answersInAll(Sample.PHASES, "getStatement(" + i + ", " + field + ")",
                        x -> x.getStatement(i, field), NONE);
            }
            for (int index : Sample.outside(Sample.STATEMENTS)) {
                if (index != -1) {
                    check.due("getStatement(" + index + ", " + field + ")",
                            Sample.in("EDIT").getStatement(index, field), NONE);
                }
            }
        }
    }

    private static void getStatementChangesNothing() {
        for (int index : new int[] {-2, -1, 0, 3, 4}) {
            for (int field = -1; field <= 4; field++) {
                int f = field;
                changesNothing("getStatement", x -> x.getStatement(index, f));
            }
        }
    }

    // Promise 9

    private static void eachVariable() {
        int[] regs = {1, 0, 0};
        int[] inits = {5, 7, -3};
        for (int v = 0; v < Sample.VARS; v++) {
            int u = v;
            answersInAll(Sample.PHASES, "getVariable(" + v + ", 0)", x -> x.getVariable(u, 0),
                    regs[v]);
            answersInAll(Sample.PHASES, "getVariable(" + v + ", 1)", x -> x.getVariable(u, 1),
                    inits[v]);
        }
        OffsetAssign x = new OffsetAssign(16, 4);
        x.setRegister(15, 3);
        x.setInit(15, NONE);
        check.due("reg(15)", x.getVariable(15, 0), 3);
        check.due("init(15)", x.getVariable(15, 1), NONE);
        x.setInit(15, Sample.MAX);
        check.due("init(15)", x.getVariable(15, 1), Sample.MAX);
    }

    private static void variableOutside() {
        for (int v : Sample.outside(Sample.VARS)) {
            for (int field = 0; field <= 1; field++) {
                int f = field;
                answersInAll(Sample.PHASES, "getVariable(" + v + ", " + f + ")",
                        x -> x.getVariable(v, f), NONE);
            }
        }
        check.due("16 of 16", new OffsetAssign(16, 1).getVariable(16, 0), NONE);
        check.due("2 of 2", new OffsetAssign(2, 1).getVariable(2, 0), NONE);
    }

    private static void variableFieldOutside() {
        for (int field : Sample.outside(2)) {
            for (int v = -1; v <= Sample.VARS; v++) {
                int u = v;
                answersInAll(Sample.PHASES, "getVariable(" + v + ", " + field + ")",
                        x -> x.getVariable(u, field), NONE);
            }
        }
    }

    private static void getVariableChangesNothing() {
        for (int v : new int[] {-1, 0, 2, 3}) {
            for (int field = -1; field <= 2; field++) {
                int f = field;
                changesNothing("getVariable", x -> x.getVariable(v, f));
            }
        }
    }

    // Promise 10

    private static void weightInAnyPhase() {
        // S_0 is 1 2 2 2 1.
        answersInAll(Sample.PHASES, "getWeight(1, 2)", x -> x.getWeight(1, 2), 2);
        answersInAll(Sample.PHASES, "getWeight(2, 1)", x -> x.getWeight(2, 1), 2);
        check.due("no block", new OffsetAssign(2, 1).getWeight(0, 1), 0);
        check.due("one access", Sample.reading(2, 0).getWeight(0, 1), 0);
        check.due("two accesses", Sample.reading(2, 0, 1).getWeight(0, 1), 1);
        check.due("last of 16", Sample.reading(16, 14, 15, 14).getWeight(15, 14), 2);
    }

    private static void currentWeight() {
        for (String phase : Sample.PHASES) {
            OffsetAssign x = Sample.in(phase);
            x.addStatement(8, 0, 2, 0);
            check.due("statement added in " + phase, x.getWeight(1, 2), 3);
            x.setRegister(0, 0);
            // S_0 is now 0 1 2 2 2 1 0 0 2.
            check.due("register joined", x.getWeight(1, 2), 2);
            check.due("register joined", x.getWeight(0, 1), 2);
            check.due("register joined", x.getWeight(0, 2), 1);
            x.setRegister(2, 1);
            check.due("register parted", x.getWeight(1, 2), 0);
            x.setRegister(2, 0);
            x.clear();
            check.due("cleared", x.getWeight(1, 2), 0);
        }
    }

    private static void weightOutside() {
        for (int outside : Sample.outside(Sample.VARS)) {
            for (int v = -1; v <= Sample.VARS; v++) {
                int u = v;
                answersInAll(Sample.PHASES, "getWeight(" + outside + ", " + v + ")",
                        x -> x.getWeight(outside, u), 0);
                answersInAll(Sample.PHASES, "getWeight(" + v + ", " + outside + ")",
                        x -> x.getWeight(u, outside), 0);
            }
        }
        check.due("15 and 16 of 16", Sample.reading(16, 15, 0, 15).getWeight(15, 16), 0);
    }

    private static void weightOfOne() {
        for (int v = 0; v < Sample.VARS; v++) {
            int u = v;
            answersInAll(Sample.PHASES, "getWeight(" + v + ", " + v + ")",
                    x -> x.getWeight(u, u), 0);
        }
        check.due("often", Sample.reading(2, 1, 1, 1, 0, 1).getWeight(1, 1), 0);
    }

    private static void weightAcross() {
        answersInAll(Sample.PHASES, "getWeight(0, 1)", x -> x.getWeight(0, 1), 0);
        answersInAll(Sample.PHASES, "getWeight(2, 0)", x -> x.getWeight(2, 0), 0);
    }

    private static void weightOfRepeats() {
        OffsetAssign x = Sample.reading(3, 0, 0, 1, 1, 1, 0, 0, 2, 2);
        check.due("0 and 1", x.getWeight(0, 1), 2);
        check.due("0 and 2", x.getWeight(0, 2), 1);
        check.due("1 and 2", x.getWeight(1, 2), 0);
        // Between the two of 0 stands an access of another register: still one after the other.
        OffsetAssign y = Sample.reading(3, 0, 1, 0, 2);
        y.setRegister(1, 1);
        check.due("0 and 2", y.getWeight(0, 2), 1);
        check.due("0 and 1", y.getWeight(0, 1), 0);
    }

    private static void getWeightChangesNothing() {
        for (int u = -1; u <= Sample.VARS; u++) {
            for (int v = -1; v <= Sample.VARS; v++) {
                int first = u;
                int second = v;
                changesNothing("getWeight", x -> x.getWeight(first, second));
            }
        }
    }

    // Promise 11

    private static void addressInEdit() {
        for (int v = -1; v <= Sample.VARS; v++) {
            int u = v;
            answersInEdit("getAddress(" + v + ")", x -> x.getAddress(u), -1);
        }
    }

    private static void addressOutside() {
        for (int v : Sample.outside(Sample.VARS)) {
            answersInAll(Sample.PHASES, "getAddress(" + v + ")", x -> x.getAddress(v), -1);
        }
        OffsetAssign x = new OffsetAssign(16, 1);
        x.compile();
        check.due("15 of 16", x.getAddress(15), 15);
        check.due("16 of 16", x.getAddress(16), -1);
    }

    private static void eachAddress() {
        int[] due = {2, 0, 1};
        for (int v = 0; v < Sample.VARS; v++) {
            int u = v;
            answersInAll(AFTER_COMPILE, "getAddress(" + v + ")", x -> x.getAddress(u), due[v]);
        }
        OffsetAssign x = Sample.in("RAN");
        x.setInit(0, 1);
        check.due("after setInit", Shown.addresses(x), Sample.ADDRESSES);
        x.setRegister(0, 0);
        x.compile();
        check.due("after another compile", Shown.addresses(x), "0 1 2");
    }

    private static void getAddressChangesNothing() {
        for (int v : new int[] {-1, 0, 2, 3}) {
            changesNothing("getAddress", x -> x.getAddress(v));
        }
    }

    // Promise 12

    private static void lengthInEdit() {
        for (int which = -1; which <= 2; which++) {
            int w = which;
            answersInEdit("getCodeLength(" + which + ")", x -> x.getCodeLength(w), -1);
        }
    }

    private static void lengthOfNoProgram() {
        for (int which : Sample.outside(2)) {
            answersInAll(Sample.PHASES, "getCodeLength(" + which + ")",
                    x -> x.getCodeLength(which), -1);
        }
    }

    private static void eachLength() {
        answersInAll(AFTER_COMPILE, "getCodeLength(0)", x -> x.getCodeLength(0),
                Sample.NAIVE_LENGTH);
        answersInAll(AFTER_COMPILE, "getCodeLength(1)", x -> x.getCodeLength(1),
                Sample.OPTIMISED_LENGTH);
        OffsetAssign x = Sample.in("RAN");
        x.setInit(0, 1);
        check.due("after setInit", x.getCodeLength(1), Sample.OPTIMISED_LENGTH);
        check.due("the greatest", Sample.fullIn("COMPILED").getCodeLength(0), 192);
        OffsetAssign empty = new OffsetAssign(2, 1);
        empty.compile();
        check.due("the least", empty.getCodeLength(0), 0);
        check.due("the least", empty.getCodeLength(1), 0);
    }

    private static void getCodeLengthChangesNothing() {
        for (int which = -1; which <= 2; which++) {
            int w = which;
            changesNothing("getCodeLength", x -> x.getCodeLength(w));
        }
    }

    // Promise 13

    private static void loadsInEdit() {
        for (int which = -1; which <= 2; which++) {
            int w = which;
            answersInEdit("getAddrLoads(" + which + ")", x -> x.getAddrLoads(w), -1);
        }
    }

    private static void loadsOfNoProgram() {
        for (int which : Sample.outside(2)) {
            answersInAll(Sample.PHASES, "getAddrLoads(" + which + ")",
                    x -> x.getAddrLoads(which), -1);
        }
    }

    private static void eachLoads() {
        answersInAll(AFTER_COMPILE, "getAddrLoads(0)", x -> x.getAddrLoads(0),
                Sample.NAIVE_LOADS);
        answersInAll(AFTER_COMPILE, "getAddrLoads(1)", x -> x.getAddrLoads(1),
                Sample.OPTIMISED_LOADS);
        check.due("the greatest", Sample.fullIn("COMPILED").getAddrLoads(0), 96);
        OffsetAssign x = Sample.in("RAN");
        x.setInit(0, 1);
        check.due("after setInit", x.getAddrLoads(0), Sample.NAIVE_LOADS);
        x.clear();
        check.due("compile of none", x.compile(), 0);
        check.due("of none", x.getAddrLoads(0), 0);
        check.due("of none", x.getAddrLoads(1), 0);
    }

    private static void getAddrLoadsChangesNothing() {
        for (int which = -1; which <= 2; which++) {
            int w = which;
            changesNothing("getAddrLoads", x -> x.getAddrLoads(w));
        }
    }

    // Promise 14

    private static void instructionInEdit() {
        for (int which : PROGRAMS) {
            for (int index : new int[] {-1, 0, 11, 12, 17, 18, 191, 192}) {
                for (int field = -1; field <= 3; field++) {
                    int f = field;
                    answersInEdit("getInstr(" + which + ", " + index + ", " + f + ")",
                            x -> x.getInstr(which, index, f), NONE);
                }
            }
        }
    }

    private static void instructionOfNoProgram() {
        for (int which : Sample.outside(2)) {
            for (int index : new int[] {-192, -1, 0, 11, 18}) {
                answersInAll(Sample.PHASES, "getInstr(" + which + ", " + index + ", 0)",
                        x -> x.getInstr(which, index, 0), NONE);
            }
        }
    }

    private static void instructionOutside() {
        for (int field = 0; field <= 2; field++) {
            int f = field;
            for (int index : Sample.outside(Sample.NAIVE_LENGTH)) {
                answersInAll(AFTER_COMPILE, "getInstr(0, " + index + ", " + f + ")",
                        x -> x.getInstr(0, index, f), NONE);
            }
            // The naive program is longer: its length is not the bound here.
            for (int index : Sample.outside(Sample.OPTIMISED_LENGTH)) {
                answersInAll(AFTER_COMPILE, "getInstr(1, " + index + ", " + f + ")",
                        x -> x.getInstr(1, index, f), NONE);
            }
        }
        for (int index : Sample.outside(192)) {
            check.due("full, " + index, Sample.fullIn("COMPILED").getInstr(0, index, 0), NONE);
        }
        OffsetAssign empty = new OffsetAssign(2, 1);
        empty.compile();
        check.due("empty, naive", empty.getInstr(0, 0, 0), NONE);
        check.due("empty, optimised", empty.getInstr(1, 0, 0), NONE);
    }

    private static void instructionFieldOutside() {
        for (int field : Sample.outside(3)) {
            for (int which : PROGRAMS) {
                for (int index : new int[] {-1, 0, 11, 17, 192}) {
                    answersInAll(AFTER_COMPILE, "getInstr(" + which + ", " + index + ", " + field
                            + ")", x -> x.getInstr(which, index, field), NONE);
                }
            }
        }
    }

    private static void eachInstruction() {
        for (String phase : AFTER_COMPILE) {
            OffsetAssign x = Sample.in(phase);
            check.due("naive in " + phase, Shown.code(x, 0), Sample.NAIVE);
            check.due("optimised in " + phase, Shown.code(x, 1), Sample.OPTIMISED);
        }
        OffsetAssign full = Sample.fullIn("COMPILED");
        // The last statement is v1 = v2 - v0.
        int[][] due = {{186, 0}, {187, 1}, {188, 0}, {189, 3}, {190, 0}, {191, 8}};
        for (int[] d : due) {
            check.due("full, " + d[0], full.getInstr(0, d[0], 0), d[1]);
        }
    }

    private static void getInstrChangesNothing() {
        for (int which = -1; which <= 2; which++) {
            for (int index : new int[] {-1, 0, 12, 18}) {
                for (int field : new int[] {-1, 0, 1, 2, 3}) {
                    int w = which;
                    changesNothing("getInstr", x -> x.getInstr(w, index, field));
                }
            }
        }
    }

    // Promise 15

    private static void valueNotRan() {
        for (int which = -1; which <= 2; which++) {
            for (int v = -1; v <= Sample.VARS; v++) {
                int w = which;
                int u = v;
                answersWithoutRun("getVar(" + which + ", " + v + ")", x -> x.getVar(w, u), 0);
            }
        }
    }

    private static void valueAfterSetInit() {
        for (int which : PROGRAMS) {
            for (int v = 0; v < Sample.VARS; v++) {
                int u = v;
                answersAfterSetInit("getVar(" + which + ", " + v + ")",
                        x -> x.getVar(which, u), 0);
            }
        }
    }

    private static void valueOfNoProgram() {
        for (int which : Sample.outside(2)) {
            for (int v = 0; v < Sample.VARS; v++) {
                int u = v;
                answersInAll(Sample.PHASES, "getVar(" + which + ", " + v + ")",
                        x -> x.getVar(which, u), 0);
            }
        }
    }

    private static void valueOutside() {
        for (int v : Sample.outside(Sample.VARS)) {
            for (int which : PROGRAMS) {
                answersInAll(Sample.PHASES, "getVar(" + which + ", " + v + ")",
                        x -> x.getVar(which, v), 0);
            }
        }
    }

    private static void eachValue() {
        int[] due = {84, 7, 12};
        String[] ran = {"RAN"};
        for (int which : PROGRAMS) {
            for (int v = 0; v < Sample.VARS; v++) {
                int u = v;
                answersInAll(ran, "getVar(" + which + ", " + v + ")", x -> x.getVar(which, u),
                        due[v]);
            }
        }
        OffsetAssign x = new OffsetAssign(16, 4);
        x.setRegister(0, 3);
        x.setInit(0, 8);
        x.addStatement(7, 15, 9, 0);
        x.compile();
        x.run();
        for (int which : PROGRAMS) {
            check.due("never accessed", x.getVar(which, 0), 8);
            check.due("last of 16", x.getVar(which, 15), 9);
            check.due("after the last", x.getVar(which, 16), 0);
        }
    }

    private static void getVarChangesNothing() {
        for (int which = -1; which <= 2; which++) {
            for (int v = -1; v <= Sample.VARS; v++) {
                int w = which;
                int u = v;
                changesNothing("getVar", x -> x.getVar(w, u));
            }
        }
    }

    // Promise 16

    private static void countNotRan() {
        for (int which = -1; which <= 2; which++) {
            int w = which;
            answersWithoutRun("getOutputCount(" + which + ")", x -> x.getOutputCount(w), -1);
        }
    }

    private static void countAfterSetInit() {
        for (int which : PROGRAMS) {
            answersAfterSetInit("getOutputCount(" + which + ")", x -> x.getOutputCount(which),
                    -1);
        }
    }

    private static void countOfNoProgram() {
        for (int which : Sample.outside(2)) {
            answersInAll(Sample.PHASES, "getOutputCount(" + which + ")",
                    x -> x.getOutputCount(which), -1);
        }
    }

    private static void eachCount() {
        for (int outputs : new int[] {0, 1, 31, 32}) {
            OffsetAssign x = new OffsetAssign(2, 1);
            for (int i = 0; i < outputs; i++) {
                x.addStatement(8, 0, i % 2, 0);
            }
            x.compile();
            x.run();
            for (int which : PROGRAMS) {
                check.due(outputs + " outputs", x.getOutputCount(which), outputs);
            }
            x.run();
            check.due(outputs + " outputs, again", x.getOutputCount(1), outputs);
        }
    }

    private static void getOutputCountChangesNothing() {
        for (int which = -1; which <= 2; which++) {
            int w = which;
            changesNothing("getOutputCount", x -> x.getOutputCount(w));
        }
    }

    // Promise 17

    private static void outputNotRan() {
        for (int which = -1; which <= 2; which++) {
            for (int index = -1; index <= 2; index++) {
                int w = which;
                int i = index;
                answersWithoutRun("getOutput(" + which + ", " + index + ")",
                        x -> x.getOutput(w, i), 0);
            }
        }
    }

    private static void outputAfterSetInit() {
        for (int which : PROGRAMS) {
            for (int index = 0; index <= 1; index++) {
                int i = index;
                answersAfterSetInit("getOutput(" + which + ", " + index + ")",
                        x -> x.getOutput(which, i), 0);
            }
        }
    }

    private static void outputOfNoProgram() {
        for (int which : Sample.outside(2)) {
            for (int index = -1; index <= 2; index++) {
                int i = index;
                answersInAll(Sample.PHASES, "getOutput(" + which + ", " + index + ")",
                        x -> x.getOutput(which, i), 0);
            }
        }
    }

    private static void outputOutside() {
        for (int which : PROGRAMS) {
            for (int index : Sample.outside(2)) {
                answersInAll(Sample.PHASES, "getOutput(" + which + ", " + index + ")",
                        x -> x.getOutput(which, index), 0);
            }
        }
        // A shorter list after a longer one: the old values may not show behind its end.
        OffsetAssign x = Sample.in("RAN");
        x.clear();
        x.addStatement(8, 0, 1, 0);
        x.compile();
        x.run();
        for (int which : PROGRAMS) {
            check.due("index 0 of 1", x.getOutput(which, 0), 7);
            check.due("index 1 of 1", x.getOutput(which, 1), 0);
        }
    }

    private static void eachOutput() {
        OffsetAssign x = new OffsetAssign(16, 1);
        for (int v = 0; v < 16; v++) {
            x.setInit(v, 1000 + v);
        }
        for (int i = 0; i < 32; i++) {
            x.addStatement(8, 0, i * 3 % 16, 0);
        }
        x.compile();
        x.run();
        for (int which : PROGRAMS) {
            for (int i = 0; i < 32; i++) {
                check.due("output " + i, x.getOutput(which, i), 1000 + i * 3 % 16);
            }
            check.due("output 32", x.getOutput(which, 32), 0);
            check.due("output -1", x.getOutput(which, -1), 0);
        }
    }

    private static void getOutputChangesNothing() {
        for (int which = -1; which <= 2; which++) {
            for (int index = -1; index <= 2; index++) {
                int w = which;
                int i = index;
                changesNothing("getOutput", x -> x.getOutput(w, i));
            }
        }
    }
}
