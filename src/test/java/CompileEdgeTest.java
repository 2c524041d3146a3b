import java.util.ArrayList;
import java.util.List;

/**
 * The boundary cases of promise 6 and of the terms it rests on (access graph, layout, code): one
 * test for each sentence of the document that names one.
 */
public final class CompileEdgeTest {
    private static final int NONE = Integer.MIN_VALUE;
    private static final String[] OPERATORS = {"ADD", "SUB", "MUL", "AND", "OR", "XOR"};
    private static final Check check = new Check();

    public static void main(String[] args) {
        compiling();
        sizes();
        graph();
        edges();
        paths();
        code();
        optimisedCode();
        check.end();
    }

    private static void compiling() {
        check.test("6: compile() is never refused, in any phase",
                CompileEdgeTest::neverRefused);
        check.test("6: from the current block and registers", CompileEdgeTest::currentBlock);
        check.test("6: discards any run results, and the phase becomes COMPILED",
                CompileEdgeTest::discardsResults);
        check.test("6: statements, registers and initial values are unchanged",
                CompileEdgeTest::keepsEntered);
        check.test("6: with an empty block no instructions and the answer 0",
                CompileEdgeTest::emptyBlock);
        check.test("6: the number of registers whose S_r is non-empty, plus the far positions",
                CompileEdgeTest::equality);
    }

    private static void sizes() {
        check.test("Terms: each program has at most 192 instructions: a full block",
                CompileEdgeTest::fullBlock);
        check.test("Terms: at most 192 instructions: many loads in the optimised program",
                CompileEdgeTest::manyLoads);
        check.test("Terms: a list of at most 32 statements: each op 32 times",
                CompileEdgeTest::fullOfEachOp);
    }

    private static void graph() {
        check.test("Terms: arguments an op does not use are ignored",
                CompileEdgeTest::unusedIgnored);
        check.test("Terms: two consecutive accesses of the same variable add to no weight",
                CompileEdgeTest::sameVariable);
        check.test("Terms: S_r is a subsequence: other registers do not part its accesses",
                CompileEdgeTest::otherRegistersBetween);
        check.test("Terms: reads before the write, one statement after the other",
                CompileEdgeTest::accessOrder);
        check.test("Terms: the greatest weight, 95", CompileEdgeTest::greatestWeight);
    }

    private static void edges() {
        check.test("Terms: ordered by w descending", CompileEdgeTest::heavierFirst);
        check.test("Terms: then u ascending", CompileEdgeTest::tieOfWeights);
        check.test("Terms: then v ascending", CompileEdgeTest::tieOfWeightsAndU);
        check.test("Terms: accepted iff u has fewer than 2 accepted edges",
                CompileEdgeTest::thirdEdgeOfU);
        check.test("Terms: accepted iff v has fewer than 2 accepted edges",
                CompileEdgeTest::thirdEdgeOfV);
        check.test("Terms: and no chain of accepted edges already joins u and v",
                CompileEdgeTest::rings);
        check.test("Terms: candidate edges are the pairs with w(u,v) > 0",
                CompileEdgeTest::noEdgeOfWeightZero);
        check.test("Terms: for each register r separately", CompileEdgeTest::noEdgeAcross);
    }

    private static void paths() {
        check.test("Terms: a vertex with no accepted edge is a path alone",
                CompileEdgeTest::alone);
        check.test("Terms: the paths are ordered by their smallest variable ascending",
                CompileEdgeTest::smallestFirst);
        check.test("Terms: each path is listed from its end with the smaller variable number",
                CompileEdgeTest::smallerEndFirst);
        check.test("Terms: vertices are all v with reg(v) = r, accessed or not",
                CompileEdgeTest::neverAccessed);
        check.test("Terms: register 0 in order, then register 1, .., then register R-1",
                CompileEdgeTest::registersInOrder);
        check.test("Terms: address(v) is a permutation of 0..V-1",
                CompileEdgeTest::permutation);
        check.test("Terms: one path of all 16 variables", CompileEdgeTest::longestPath);
    }

    private static void code() {
        check.test("Terms: naive: before every access instruction an LDAR, every modifier 0",
                CompileEdgeTest::naiveLoadsAlways);
        check.test("Terms: naive: uses address v for variable v", CompileEdgeTest::naiveAddress);
        check.test("Terms: opcode = 2 + statement op", CompileEdgeTest::opcodes);
        check.test("Terms: I_LDI: its register field is 0; the operand is the statement's a",
                CompileEdgeTest::constants);
        check.test("Terms: I_OUT: its register field is 0 and its operand 0",
                CompileEdgeTest::outs);
    }

    private static void optimisedCode() {
        check.test("What it is: an LDAR before the first access, even if that address is 0",
                CompileEdgeTest::firstLoadAtZero);
        check.test("What it is: before the first access of each register",
                CompileEdgeTest::firstLoadOfEachRegister);
        check.test("Terms: m = q - p if -1 <= q - p <= 1: one cell up and down",
                CompileEdgeTest::oneCell);
        check.test("Terms: m = q - p if -1 <= q - p <= 1: the same cell",
                CompileEdgeTest::sameCell);
        check.test("Terms: else m = 0: two cells up and down", CompileEdgeTest::twoCells);
        check.test("Terms: m = q - p if such an access exists: the last of its register",
                CompileEdgeTest::lastAccess);
        check.test("Terms: the next access of S_r after this one, in a later statement",
                CompileEdgeTest::nextInLaterStatement);
        check.test("Terms: if K[r] != p, emit LDAR: a value K[r] per register",
                CompileEdgeTest::oneKnownAddressPerRegister);
    }

    private static void laysOut(String what, OffsetAssign x, int loads, String addresses) {
        check.due("compile(), " + what, x.compile(), loads);
        check.due("addresses, " + what, Shown.addresses(x), addresses);
    }

    /** Weights, layout and code: all that the block of an object over three variables decides. */
    private static String made(OffsetAssign x) {
        x.compile();
        return x.getWeight(0, 1) + " " + x.getWeight(0, 2) + " " + x.getWeight(1, 2) + ", "
                + Shown.addresses(x) + ", " + Shown.code(x, 0) + ", " + Shown.code(x, 1);
    }

    // Promise 6

    private static void neverRefused() {
        for (String phase : Sample.PHASES) {
            OffsetAssign x = Sample.in(phase);
            for (int time = 0; time < 3; time++) {
                check.due("in " + phase, x.compile(), Sample.OPTIMISED_LOADS);
                check.due("phase after " + phase, Shown.phase(x), "COMPILED");
                check.due("layout after " + phase, Shown.addresses(x), Sample.ADDRESSES);
                check.due("naive after " + phase, Shown.code(x, 0), Sample.NAIVE);
                check.due("optimised after " + phase, Shown.code(x, 1), Sample.OPTIMISED);
            }
            x.clear();
            check.due("after clear", x.compile(), 0);
            check.due("full in " + phase, Sample.fullIn(phase).compile() > 0, true);
        }
        check.due("at the start", new OffsetAssign(2, 1).compile(), 0);
    }

    private static void currentBlock() {
        for (String phase : Sample.PHASES) {
            OffsetAssign x = Sample.in(phase);
            x.setRegister(0, 0);
            // A is 0 1 2 2 2 1 0 0, now all of one register: 0-1 and 1-2 weigh 2.
            laysOut("one register after " + phase, x, 1, "0 1 2");
            x.addStatement(8, 0, 2, 0);
            // The last access goes from 0 to 2: 0-2 weighs 1 and would close a ring.
            laysOut("one statement more", x, 2, "0 1 2");
            x.clear();
            x.addStatement(6, 2, 0, 0);
            laysOut("another block", x, 1, "0 2 1");
            check.due("its length", x.getCodeLength(1), 3);
        }
    }

    private static void discardsResults() {
        OffsetAssign x = Sample.in("RAN");
        x.compile();
        check.due("phase", Shown.phase(x), "COMPILED");
        for (int which = 0; which <= 1; which++) {
            check.due("outputs", x.getOutputCount(which), -1);
            check.due("output", x.getOutput(which, 0), 0);
            check.due("values", Shown.values(x, which), "0 0 0");
        }
    }

    private static void keepsEntered() {
        for (String phase : Sample.PHASES) {
            OffsetAssign x = Sample.in(phase);
            x.compile();
            check.due("after " + phase, Shown.entered(x), Sample.ENTERED);
        }
    }

    private static void emptyBlock() {
        OffsetAssign cleared = Sample.in("RAN");
        cleared.clear();
        OffsetAssign spread = new OffsetAssign(16, 4);
        spread.setRegister(0, 3);
        OffsetAssign[] all = {
            new OffsetAssign(2, 1), new OffsetAssign(16, 4), cleared, spread
        };
        for (OffsetAssign x : all) {
            check.due("compile()", x.compile(), 0);
            check.due("phase", Shown.phase(x), "COMPILED");
            for (int which = 0; which <= 1; which++) {
                check.due("length", x.getCodeLength(which), 0);
                check.due("loads", x.getAddrLoads(which), 0);
                check.due("instruction 0", x.getInstr(which, 0, 0), NONE);
            }
        }
        check.due("layout of 2", Shown.addresses(all[0]), "0 1");
        check.due("layout by registers", Shown.addresses(spread),
                "15 0 1 2 3 4 5 6 7 8 9 10 11 12 13 14");
    }

    private static void equality() {
        obeysEquality("no access", Sample.reading(2), 0);
        obeysEquality("one access", Sample.reading(2, 1), 1);
        obeysEquality("only near accesses", Sample.reading(3, 0, 1, 2, 1, 0), 1);
        // One access in each of four registers, and nothing in the others' way.
        OffsetAssign four = Sample.reading(4, 0, 1, 2, 3);
        for (int v = 0; v < 4; v++) {
            four.setRegister(v, v);
        }
        obeysEquality("four registers", four, 4);
        for (int vars = 2; vars <= 16; vars++) {
            for (int regs = 1; regs <= 4; regs++) {
                OffsetAssign x = scattered(vars, regs, vars * 7 + regs);
                obeysEquality("V = " + vars + ", R = " + regs, x, x.compile());
            }
        }
    }

    /** A full block whose variables and registers are strewn about. */
    private static OffsetAssign scattered(int vars, int regs, int start) {
        OffsetAssign x = new OffsetAssign(vars, regs);
        int number = start;
        for (int v = 0; v < vars; v++) {
            number = (number * 75 + 74) % 65537;
            x.setRegister(v, number % regs);
        }
        for (int i = 0; i < 32; i++) {
            int[] drawn = new int[4];
            for (int k = 0; k < 4; k++) {
                number = (number * 75 + 74) % 65537;
                drawn[k] = number;
            }
            x.addStatement(drawn[0] % 9, drawn[1] % vars, drawn[2] % vars, drawn[3] % vars);
        }
        return x;
    }

    private static void obeysEquality(String what, OffsetAssign x, int loads) {
        check.due("compile(), " + what, x.compile(), loads);
        check.due("getAddrLoads(1), " + what, x.getAddrLoads(1), loads);
        int due = 0;
        for (int r = 0; r < 4; r++) {
            List<Integer> cells = cellsOf(x, r);
            due += cells.isEmpty() ? 0 : 1;
            for (int i = 1; i < cells.size(); i++) {
                due += Math.abs(cells.get(i) - cells.get(i - 1)) > 1 ? 1 : 0;
            }
        }
        check.due("the sum, " + what, loads, due);
        int seen = 0;
        for (int i = 0; i < x.getCodeLength(1); i++) {
            seen += x.getInstr(1, i, 0) == 0 ? 1 : 0;
        }
        check.due("LDAR instructions, " + what, seen, due);
    }

    /** The addresses of S_r, from what the getters tell of the block. */
    private static List<Integer> cellsOf(OffsetAssign x, int r) {
        List<Integer> cells = new ArrayList<>();
        for (int i = 0; i < x.getStatement(-1, 0); i++) {
            int op = x.getStatement(i, 0);
            int[] fields = op <= 5 ? new int[] {2, 3, 1} : op == 6 ? new int[] {2, 1}
                    : op == 7 ? new int[] {1} : new int[] {2};
            for (int field : fields) {
                int v = x.getStatement(i, field);
                if (x.getVariable(v, 0) == r) {
                    cells.add(x.getAddress(v));
                }
            }
        }
        return cells;
    }

    // Terms: sizes

    private static void fullBlock() {
        for (int regs = 1; regs <= 4; regs++) {
            OffsetAssign x = new OffsetAssign(16, regs);
            for (int v = 0; v < 16; v++) {
                x.setRegister(v, v % regs);
            }
            for (int i = 0; i < 32; i++) {
                int number = x.addStatement(i % 6, (i * 7 + 3) % 16, i % 16, (i * 11 + 8) % 16);
                check.due("number", number, i);
            }
            int loads = x.compile();
            check.due("naive length", x.getCodeLength(0), 192);
            check.due("naive loads", x.getAddrLoads(0), 96);
            check.due("optimised length", x.getCodeLength(1), 96 + loads);
            check.due("optimised loads at most 96", loads <= 96, true);
            for (int i = 0; i < 32; i++) {
                check.due("load of " + i, x.getInstr(0, i * 6 + 1, 0), 1);
                check.due("operator of " + i, x.getInstr(0, i * 6 + 3, 0), 2 + i % 6);
                check.due("store of " + i, x.getInstr(0, i * 6 + 5, 0), 8);
                check.due("its address", x.getInstr(0, i * 6 + 4, 2), (i * 7 + 3) % 16);
            }
            check.due("instruction 192", x.getInstr(0, 192, 0), NONE);
            check.due("last of the optimised", x.getInstr(1, 95 + loads, 0), 8);
            check.due("after it", x.getInstr(1, 96 + loads, 0), NONE);
            check.due("run", x.run(), 0);
        }
    }

    private static void manyLoads() {
        // Steps of 1, 2, .. 6 around 0..12 meet each pair of them once; then 13, 14, 15 by turns
        // with 1, 2, ..: all 95 pairs are different, so each weighs 1.
        int[] trail = new int[96];
        for (int i = 1; i < 79; i++) {
            trail[i] = (trail[i - 1] + 1 + (i - 1) / 13) % 13;
        }
        for (int i = 79; i < 96; i++) {
            int turn = i - 79;
            trail[i] = turn % 2 == 0 ? 13 + turn / 2 % 3 : 1 + turn / 2;
        }
        OffsetAssign x = new OffsetAssign(16, 1);
        for (int i = 0; i < 32; i++) {
            x.addStatement(i % 6, trail[i * 3 + 2], trail[i * 3], trail[i * 3 + 1]);
        }
        // Path 11 9 7 5 3 1 0 2 4 6 8 10 12, then 13, 14, 15 alone: 12 of the pairs are near.
        laysOut("trail", x, 1 + 95 - 12, "6 5 7 4 8 3 9 2 10 1 11 0 12 13 14 15");
        check.due("length", x.getCodeLength(1), 96 + 84);
        check.due("last", x.getInstr(1, 179, 0), 8);
        check.due("after the last", x.getInstr(1, 180, 0), NONE);
        check.due("run", x.run(), 0);
    }

    private static void fullOfEachOp() {
        int[] naive = {192, 192, 192, 192, 192, 192, 128, 96, 96};
        int[] accesses = {96, 96, 96, 96, 96, 96, 64, 32, 32};
        for (int op = 0; op <= 8; op++) {
            OffsetAssign x = new OffsetAssign(2, 1);
            for (int i = 0; i < 32; i++) {
                x.addStatement(op, 1, 0, 0);
            }
            check.due("op " + op, x.compile(), 1);
            check.due("naive length, op " + op, x.getCodeLength(0), naive[op]);
            check.due("naive loads, op " + op, x.getAddrLoads(0), accesses[op]);
            // Without its loads the naive program is as long as the optimised one without its one.
            check.due("optimised length, op " + op, x.getCodeLength(1),
                    naive[op] - accesses[op] + 1);
            check.due("outputs, op " + op, x.run(), op == 8 ? 32 : 0);
        }
    }

    // Terms: access graph

    private static void unusedIgnored() {
        String copy = unused(6, 1, 0, 2);
        String constant = unused(7, 1, 0, 2);
        String out = unused(8, 2, 1, 2);
        for (int any : Sample.ANY_INTS) {
            check.due("b of copy, " + any, unused(6, 1, 0, any), copy);
            check.due("b of constant, " + any, unused(7, 1, 0, any), constant);
            check.due("dest of out, " + any, unused(8, any, 1, 2), out);
            check.due("b of out, " + any, unused(8, 2, 1, any), out);
        }
    }

    private static String unused(int op, int dest, int a, int b) {
        OffsetAssign x = new OffsetAssign(3, 1);
        x.addStatement(0, 2, 0, 1);
        x.addStatement(op, dest, a, b);
        x.addStatement(0, 2, 0, 1);
        return made(x);
    }

    private static void sameVariable() {
        OffsetAssign within = new OffsetAssign(2, 1);
        within.addStatement(0, 1, 1, 1);
        check.due("within a statement", within.getWeight(0, 1), 0);
        check.due("with itself", within.getWeight(1, 1), 0);
        OffsetAssign across = Sample.reading(2, 0, 0, 0, 1, 1, 1, 0);
        check.due("across statements", across.getWeight(0, 1), 2);
        // 2-3 has weight 2 and 0-1 weight 1, whatever stands twice; 1-2 joins them.
        laysOut("repeats", Sample.reading(4, 0, 0, 0, 0, 1, 2, 2, 3, 2), 1, "0 1 2 3");
        // With the repeats counted in, 1-0 would not be beaten by 0-2 and 0-3.
        laysOut("repeats at one", Sample.reading(4, 1, 1, 1, 1, 0, 2, 0, 3, 0), 2, "1 3 0 2");
    }

    private static void otherRegistersBetween() {
        OffsetAssign x = Sample.reading(4, 0, 2, 3, 1, 2, 0, 3, 2, 1);
        x.setRegister(2, 1);
        x.setRegister(3, 2);
        check.due("0 and 1", x.getWeight(0, 1), 3);
        check.due("0 and 2", x.getWeight(0, 2), 0);
        x.setRegister(3, 1);
        check.due("2 and 3", x.getWeight(2, 3), 4);
        // The registers' own sequences are 0 1 0 1 and 2 3 2 3 2.
        laysOut("two by turns", x, 2, "0 1 2 3");
    }

    private static void accessOrder() {
        OffsetAssign x = new OffsetAssign(4, 1);
        x.addStatement(1, 3, 0, 2);
        x.addStatement(6, 1, 0, 2);
        x.addStatement(7, 2, 3, 3);
        x.addStatement(8, 3, 0, 3);
        // A is 0 2 3, 0 1, 2, 0.
        int[][] due = {{0, 1, 1}, {0, 2, 2}, {0, 3, 1}, {1, 2, 1}, {1, 3, 0}, {2, 3, 1}};
        for (int[] d : due) {
            check.due("weight of " + d[0] + " and " + d[1], x.getWeight(d[0], d[1]), d[2]);
            check.due("weight of " + d[1] + " and " + d[0], x.getWeight(d[1], d[0]), d[2]);
        }
    }

    private static void greatestWeight() {
        OffsetAssign x = new OffsetAssign(3, 1);
        for (int i = 0; i < 16; i++) {
            x.addStatement(0, 2, 2, 0);
            x.addStatement(0, 0, 0, 2);
        }
        check.due("weight", x.getWeight(0, 2), 95);
        check.due("weight", x.getWeight(2, 0), 95);
        laysOut("by turns", x, 1, "0 2 1");
    }

    // Terms: layout

    private static void heavierFirst() {
        // 2-3 weighs 3, 0-3 and 1-3 2 each: 3 has no room left for 1.
        laysOut("heavier of greater numbers", Sample.reading(4, 2, 3, 2, 3, 1, 3, 0, 3), 3,
                "0 3 2 1");
        // 0-1 weighs 1, 0-2 and 1-2 weigh 2: lightest first would begin with 0-1.
        laysOut("lightest last", Sample.reading(3, 0, 2, 0, 1, 2, 1), 2, "0 2 1");
    }

    private static void tieOfWeights() {
        // All three weigh 1: 0-1 and 0-2, then 1-2 would close a ring.
        laysOut("ring of equal weights", Sample.reading(3, 1, 2, 0, 1), 2, "1 0 2");
        // 0-1 and 2-3 weigh 3, 0-3 and 1-2 1: the smaller u comes first, though its v is greater.
        laysOut("u before v", Sample.reading(4, 0, 1, 0, 1, 2, 3, 2, 3, 0), 2, "1 0 3 2");
        // 0-3, 1-2, 1-3, 2-3 weigh 1: all but the last are accepted.
        laysOut("smallest u first", Sample.reading(4, 0, 3, 2, 1, 3), 2, "0 2 3 1");
    }

    private static void tieOfWeightsAndU() {
        // 0-1, 0-2, 0-3 weigh 2: 0-3 finds no room.
        laysOut("star", Sample.reading(4, 0, 3, 0, 2, 0, 1, 0), 3, "1 0 2 3");
        // 1-2, 1-3, 1-4 weigh 2 in the same way; 0 is alone and first.
        laysOut("star at 1", Sample.reading(5, 1, 4, 1, 3, 1, 2, 1), 3, "0 2 1 3 4");
    }

    private static void thirdEdgeOfU() {
        // 0-2 and 0-3 weigh 2, 0-4 1: u = 0 has two, so 4 stays alone.
        laysOut("u has two", Sample.reading(5, 0, 2, 0, 3, 0, 4), 2, "1 3 0 2 4");
        // With one accepted edge at each there is room: 0-2 (2), 0-3 (1), both accepted.
        laysOut("u has one", Sample.reading(4, 2, 0, 2, 0, 3), 1, "1 3 0 2");
    }

    private static void thirdEdgeOfV() {
        // 1-4 and 2-4 weigh 2, 0-4 1: v = 4 has two, so 0 stays alone.
        laysOut("v has two", Sample.reading(5, 4, 1, 4, 2, 4, 0), 2, "0 1 3 4 2");
        // 1-3 weighs 3 and 0-3 1, both accepted.
        laysOut("v has one", Sample.reading(4, 1, 3, 1, 3, 0), 1, "0 2 3 1");
    }

    private static void rings() {
        // 0-1 weighs 3, 1-2 2, 0-2 1.
        laysOut("of three", Sample.reading(3, 2, 0, 1, 0, 1, 2, 1), 2, "0 1 2");
        // Around 0 1 2 3 0: the last edge in order, 2-3, is joined by the chain 2-1-0-3.
        laysOut("of four", Sample.reading(4, 0, 1, 2, 3, 0), 2, "2 1 0 3");
        // 0-1 and 2-3 are two chains when 1-2 comes, and one when 0-3 comes.
        laysOut("two chains made one",
                Sample.reading(4, 0, 1, 0, 1, 0, 1, 2, 3, 2, 3, 2, 1, 2, 3, 0), 2, "0 1 2 3");
        // Around all 16 variables, by steps of one.
        int[] around = new int[17];
        for (int i = 0; i < 17; i++) {
            around[i] = i % 16;
        }
        // Accepted are all but 14-15, the last in order: the path is 14 13 .. 1 0 15.
        laysOut("of sixteen", Sample.reading(16, around), 2,
                "14 13 12 11 10 9 8 7 6 5 4 3 2 1 0 15");
    }

    private static void noEdgeOfWeightZero() {
        // 0-3 and 0-2 are accepted; 1 has no edge, so 1-2 (weight 0) may not draw it near.
        laysOut("1 stays last", Sample.reading(4, 3, 0, 2), 1, "1 3 0 2");
        // No pair of accesses at all, so each of the four is a path alone.
        OffsetAssign x = new OffsetAssign(4, 2);
        x.addStatement(7, 3, 0, 0);
        laysOut("a single access", x, 1, "0 1 2 3");
    }

    private static void noEdgeAcross() {
        // By turns 0 and 1, which are in different registers, and 0 and 2, which are not.
        OffsetAssign x = Sample.reading(3, 0, 1, 0, 1, 0, 2, 1, 2);
        x.setRegister(1, 1);
        check.due("weight across", x.getWeight(0, 1), 0);
        laysOut("across", x, 2, "0 2 1");
        // Edges of one register take no room from the other's: a star in each.
        OffsetAssign y = Sample.reading(8, 0, 4, 1, 5, 0, 4, 2, 6, 0, 4, 3, 7);
        for (int v = 4; v < 8; v++) {
            y.setRegister(v, 1);
        }
        laysOut("a star in each", y, 4, "1 0 2 3 5 4 6 7");
    }

    private static void alone() {
        laysOut("never accessed", Sample.reading(4), 0, "0 1 2 3");
        laysOut("only repeated", Sample.reading(4, 2, 2, 2), 1, "0 1 2 3");
        // 3 is accessed between 0 and 0 as 1 and 2 are, but 0 has no room left.
        laysOut("all its edges refused", Sample.reading(5, 0, 1, 0, 2, 0, 3, 0, 4), 4,
                "1 0 2 3 4");
        OffsetAssign x = Sample.reading(3, 1, 0, 1, 2);
        x.setRegister(0, 1);
        x.setRegister(1, 2);
        laysOut("each in a register of its own", x, 3, "1 2 0");
    }

    private static void smallestFirst() {
        // Path 3-0-2 before 1, though its ends are greater.
        laysOut("smallest inside", Sample.reading(4, 2, 0, 3), 1, "1 3 0 2");
        // 1-5 weighs 4, 0-3 and 1-4 3, 1-3 1: paths 0-3, 4-1-5 (smallest 1) and 2 alone.
        laysOut("three paths", Sample.reading(6, 4, 1, 4, 1, 5, 1, 5, 1, 3, 0, 3, 0), 2,
                "0 3 5 1 2 4");
    }

    private static void smallerEndFirst() {
        laysOut("from 0 of 1-2-0", Sample.reading(3, 1, 2, 0), 1, "0 2 1");
        laysOut("from 2 of 3-0-2", Sample.reading(4, 3, 0, 2), 1, "1 3 0 2");
        laysOut("from 1 of 2-0-1", Sample.reading(3, 2, 0, 1), 1, "1 0 2");
        laysOut("from 4 of 5-0-1-2-3-4", Sample.reading(6, 5, 0, 1, 2, 3, 4), 1, "4 3 2 1 0 5");
    }

    private static void neverAccessed() {
        // Only 2 and 4 are accessed; the others have addresses all the same.
        laysOut("around the accessed", Sample.reading(6, 4, 2, 4), 1, "0 1 2 4 3 5");
        OffsetAssign x = Sample.reading(4, 3);
        x.setRegister(0, 1);
        laysOut("in a register without accesses", x, 1, "3 0 1 2");
    }

    private static void registersInOrder() {
        // Registers 3, 2, 1, 0 for variables 0, 1, 2, 3; then two each, with no edges.
        OffsetAssign x = new OffsetAssign(4, 4);
        for (int v = 0; v < 4; v++) {
            x.setRegister(v, 3 - v);
        }
        laysOut("backwards", x, 0, "3 2 1 0");
        OffsetAssign y = new OffsetAssign(6, 4);
        for (int v = 0; v < 6; v++) {
            y.setRegister(v, v % 2 == 0 ? 3 : 1);
        }
        laysOut("registers 0 and 2 without variables", y, 0, "3 0 4 1 5 2");
        y.addStatement(6, 0, 4, 0);
        y.addStatement(6, 1, 5, 0);
        laysOut("with a path in each", y, 2, "3 0 5 2 4 1");
    }

    private static void permutation() {
        for (int vars = 2; vars <= 16; vars++) {
            for (int regs = 1; regs <= 4; regs++) {
                for (int start = 0; start < 5; start++) {
                    OffsetAssign x = scattered(vars, regs, start * 101 + vars);
                    x.compile();
                    holdsEachOnce(x, vars);
                }
            }
        }
    }

    private static void holdsEachOnce(OffsetAssign x, int vars) {
        boolean[] taken = new boolean[vars];
        for (int v = 0; v < vars; v++) {
            int cell = x.getAddress(v);
            boolean free = cell >= 0 && cell < vars && !taken[cell];
            check.due("address " + cell + " of " + v + " is free", free, true);
            if (free) {
                taken[cell] = true;
            }
        }
    }

    private static void longestPath() {
        laysOut("0, 15, 1, 14, ..",
                Sample.reading(16, 0, 15, 1, 14, 2, 13, 3, 12, 4, 11, 5, 10, 6, 9, 7, 8), 1,
                "0 2 4 6 8 10 12 14 15 13 11 9 7 5 3 1");
    }

    // Terms: code

    private static void naiveLoadsAlways() {
        OffsetAssign x = new OffsetAssign(2, 1);
        x.addStatement(0, 0, 0, 0);
        x.addStatement(8, 0, 0, 0);
        x.compile();
        check.due("the same variable again", Shown.code(x, 0), "LDAR 0 0, LOAD 0 0, LDAR 0 0, "
                + "ADD 0 0, LDAR 0 0, STORE 0 0, LDAR 0 0, LOAD 0 0, OUT 0 0");
        OffsetAssign y = new OffsetAssign(2, 1);
        y.addStatement(1, 1, 0, 1);
        y.compile();
        check.due("the next cell", Shown.code(y, 0),
                "LDAR 0 0, LOAD 0 0, LDAR 0 1, SUB 0 0, LDAR 0 1, STORE 0 0");
    }

    private static void naiveAddress() {
        OffsetAssign x = new OffsetAssign(16, 4);
        x.setRegister(0, 3);
        x.addStatement(6, 15, 0, 0);
        x.compile();
        check.due("address of 0", x.getAddress(0), 15);
        check.due("naive", Shown.code(x, 0), "LDAR 3 0, LOAD 3 0, LDAR 0 15, STORE 0 0");
        check.due("optimised", Shown.code(x, 1), "LDAR 3 15, LOAD 3 0, LDAR 0 14, STORE 0 0");
    }

    private static void opcodes() {
        for (int op = 0; op <= 5; op++) {
            OffsetAssign x = new OffsetAssign(2, 2);
            x.setRegister(1, 1);
            x.addStatement(op, 1, 1, 0);
            x.compile();
            check.due("naive, op " + op, Shown.code(x, 0), "LDAR 1 1, LOAD 1 0, LDAR 0 0, "
                    + OPERATORS[op] + " 0 0, LDAR 1 1, STORE 1 0");
            check.due("optimised, op " + op, Shown.code(x, 1), "LDAR 1 1, LOAD 1 0, LDAR 0 0, "
                    + OPERATORS[op] + " 0 0, STORE 1 0");
        }
    }

    private static void constants() {
        for (int any : Sample.ANY_INTS) {
            OffsetAssign x = new OffsetAssign(2, 4);
            x.setRegister(1, 3);
            x.addStatement(7, 1, any, 1);
            check.due("loads", x.compile(), 1);
            for (int which = 0; which <= 1; which++) {
                check.due("program " + which, Shown.code(x, which),
                        "LDI 0 " + any + ", LDAR 3 1, STORE 3 0");
            }
        }
    }

    private static void outs() {
        OffsetAssign x = new OffsetAssign(2, 4);
        x.setRegister(1, 3);
        x.addStatement(8, 1, 1, 1);
        x.addStatement(8, 1, 1, 1);
        x.compile();
        check.due("naive", Shown.code(x, 0),
                "LDAR 3 1, LOAD 3 0, OUT 0 0, LDAR 3 1, LOAD 3 0, OUT 0 0");
        check.due("optimised", Shown.code(x, 1),
                "LDAR 3 1, LOAD 3 0, OUT 0 0, LOAD 3 0, OUT 0 0");
    }

    private static void firstLoadAtZero() {
        OffsetAssign out = Sample.reading(2, 0);
        laysOut("read", out, 1, "0 1");
        check.due("read", Shown.code(out, 1), "LDAR 0 0, LOAD 0 0, OUT 0 0");
        OffsetAssign constant = new OffsetAssign(2, 1);
        constant.addStatement(7, 0, 5, 0);
        laysOut("write", constant, 1, "0 1");
        check.due("write", Shown.code(constant, 1), "LDI 0 5, LDAR 0 0, STORE 0 0");
        // Register 0 is without variables, so register 1 begins at address 0.
        OffsetAssign other = Sample.reading(2, 0);
        other.setRegister(0, 1);
        other.setRegister(1, 1);
        laysOut("register 1", other, 1, "0 1");
        check.due("register 1", Shown.code(other, 1), "LDAR 1 0, LOAD 1 0, OUT 0 0");
    }

    private static void firstLoadOfEachRegister() {
        // The registers' first accesses lie one cell from each other, and one comes late.
        OffsetAssign x = Sample.reading(4, 0, 1, 0, 1, 2, 3, 3);
        for (int v = 0; v < 4; v++) {
            x.setRegister(v, v);
        }
        laysOut("four registers", x, 4, "0 1 2 3");
        check.due("four registers", Shown.code(x, 1), "LDAR 0 0, LOAD 0 0, OUT 0 0, "
                + "LDAR 1 1, LOAD 1 0, OUT 0 0, LOAD 0 0, OUT 0 0, LOAD 1 0, OUT 0 0, "
                + "LDAR 2 2, LOAD 2 0, OUT 0 0, LDAR 3 3, LOAD 3 0, OUT 0 0, LOAD 3 0, OUT 0 0");
    }

    private static void oneCell() {
        OffsetAssign x = Sample.reading(2, 0, 1, 0);
        laysOut("up and down", x, 1, "0 1");
        check.due("up and down", Shown.code(x, 1),
                "LDAR 0 0, LOAD 0 1, OUT 0 0, LOAD 0 -1, OUT 0 0, LOAD 0 0, OUT 0 0");
    }

    private static void sameCell() {
        OffsetAssign x = new OffsetAssign(3, 1);
        x.addStatement(2, 2, 2, 2);
        laysOut("the same cell", x, 1, "0 1 2");
        check.due("the same cell", Shown.code(x, 1), "LDAR 0 2, LOAD 0 0, MUL 0 0, STORE 0 0");
    }

    private static void twoCells() {
        // 1-2 weighs 3, 0-1 1; 0-2 would close a ring.
        OffsetAssign down = Sample.reading(3, 0, 1, 2, 1, 2, 0);
        laysOut("down", down, 2, "0 1 2");
        check.due("down", Shown.code(down, 1), "LDAR 0 0, LOAD 0 1, OUT 0 0, LOAD 0 1, OUT 0 0, "
                + "LOAD 0 -1, OUT 0 0, LOAD 0 1, OUT 0 0, LOAD 0 0, OUT 0 0, "
                + "LDAR 0 0, LOAD 0 0, OUT 0 0");
        OffsetAssign up = Sample.reading(3, 2, 1, 2, 1, 0, 2);
        laysOut("up", up, 2, "0 1 2");
        check.due("up", Shown.code(up, 1), "LDAR 0 2, LOAD 0 -1, OUT 0 0, LOAD 0 1, OUT 0 0, "
                + "LOAD 0 -1, OUT 0 0, LOAD 0 -1, OUT 0 0, LOAD 0 0, OUT 0 0, "
                + "LDAR 0 2, LOAD 0 0, OUT 0 0");
    }

    private static void lastAccess() {
        // After 1 and 0 nothing of their registers follows, whatever the others do.
        OffsetAssign x = Sample.reading(4, 0, 1, 2, 3);
        x.setRegister(2, 1);
        x.setRegister(3, 1);
        laysOut("two registers", x, 2, "0 1 2 3");
        check.due("two registers", Shown.code(x, 1), "LDAR 0 0, LOAD 0 1, OUT 0 0, "
                + "LOAD 0 0, OUT 0 0, LDAR 1 2, LOAD 1 1, OUT 0 0, LOAD 1 0, OUT 0 0");
    }

    private static void nextInLaterStatement() {
        OffsetAssign x = new OffsetAssign(3, 2);
        x.setRegister(2, 1);
        x.addStatement(6, 2, 0, 0);
        x.addStatement(7, 2, 9, 0);
        x.addStatement(6, 2, 2, 0);
        x.addStatement(6, 2, 1, 0);
        laysOut("three statements on", x, 2, "0 1 2");
        check.due("three statements on", Shown.code(x, 1), "LDAR 0 0, LOAD 0 1, LDAR 1 2, "
                + "STORE 1 0, LDI 0 9, STORE 1 0, LOAD 1 0, STORE 1 0, LOAD 0 0, STORE 1 0");
    }

    private static void oneKnownAddressPerRegister() {
        // Register 1 goes from 4 to 2 (two cells) while register 0 stands still at 0.
        OffsetAssign x = Sample.reading(5, 4, 0, 3, 0, 4, 0, 2, 3, 0, 2, 4, 0);
        for (int v = 2; v < 5; v++) {
            x.setRegister(v, 1);
        }
        // S_1 is 4 3 4 2 3 2 4: 3-4 weighs 2, 2-4 2, 2-3 2; so 2-3, 2-4: path 3-2-4.
        laysOut("one stands still", x, 4, "0 1 3 2 4");
        check.due("one stands still", Shown.code(x, 1), "LDAR 1 4, LOAD 1 0, OUT 0 0, "
                + "LDAR 0 0, LOAD 0 0, OUT 0 0, LDAR 1 2, LOAD 1 0, OUT 0 0, LOAD 0 0, OUT 0 0, "
                + "LDAR 1 4, LOAD 1 -1, OUT 0 0, LOAD 0 0, OUT 0 0, LOAD 1 -1, OUT 0 0, "
                + "LOAD 1 1, OUT 0 0, LOAD 0 0, OUT 0 0, LOAD 1 1, OUT 0 0, LOAD 1 0, OUT 0 0, "
                + "LOAD 0 0, OUT 0 0");
    }
}
