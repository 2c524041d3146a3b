/**
 * Long runs of calls, drawn from fixed seeds, on the class and on the model; after each call every
 * getter must answer the same on both, inside its bounds and just outside them.
 */
public final class ModelTest {
    private static final int RUNS = 400;
    private static final int CALLS = 90;
    private static final int[] EDGES = {
        Integer.MIN_VALUE, Integer.MIN_VALUE + 1, -65536, -2, -1, 0, 1, 2, 4, 8, 9, 15, 16, 17, 31,
        32, 65535, 65536, 191, 192, 1 << 30, Integer.MAX_VALUE - 1, Integer.MAX_VALUE
    };

    private static final Check check = new Check();
    private static long seed;
    private static OffsetAssign x;
    private static Model m;

    public static void main(String[] args) {
        for (int run = 1; run <= RUNS && !check.anyWrong(); run++) {
            seed = run;
            int vars = below(8) == 0 ? anyInt() : below(20);
            int regs = below(8) == 0 ? anyInt() : below(6);
            x = new OffsetAssign(vars, regs);
            m = new Model(vars, regs);
            String start = "run " + run + ": new OffsetAssign(" + vars + ", " + regs + ")";
            compare(start);
            // Some runs rarely clear or go wrong, so that the block gets full.
            boolean filling = run % 3 == 0;
            for (int call = 1; call <= CALLS && !check.anyWrong(); call++) {
                compare(start + ", call " + call + ": " + step(filling));
            }
        }
        check.end();
    }

    /** A number in 0..n-1, the same ones each time the test runs. */
    private static int below(int n) {
        seed = seed * 6364136223846793005L + 1442695040888963407L;
        return (int) ((seed >>> 33) % n);
    }

    private static int anyInt() {
        return below(2) == 0 ? EDGES[below(EDGES.length)] : below(1 << 30) * 4 + below(4);
    }

    private static int mostlyBelow(int n) {
        return below(25) == 0 ? anyInt() : below(n);
    }

    private static String step(boolean filling) {
        int kind = below(100);
        if (kind < 55) {
            return addStatement(filling);
        }
        if (kind < 65) {
            return setRegister();
        }
        if (kind < 78) {
            return setInit();
        }
        if (kind < 88) {
            check.due("compile()", x.compile(), m.compile());
            return "compile()";
        }
        if (kind < 98 || filling) {
            check.due("run()", x.run(), m.run());
            return "run()";
        }
        x.clear();
        m.clear();
        return "clear()";
    }

    private static String addStatement(boolean filling) {
        int op = filling ? below(9) : mostlyBelow(9);
        int dest = filling ? below(m.vars) : mostlyBelow(m.vars);
        int a = op == 7 ? anyInt() : mostlyBelow(m.vars);
        int b = op > 5 ? anyInt() : mostlyBelow(m.vars);
        String call = "addStatement(" + op + ", " + dest + ", " + a + ", " + b + ")";
        check.due(call, x.addStatement(op, dest, a, b), m.addStatement(op, dest, a, b));
        return call;
    }

    private static String setRegister() {
        int v = mostlyBelow(m.vars);
        int r = mostlyBelow(m.regs);
        String call = "setRegister(" + v + ", " + r + ")";
        check.due(call, x.setRegister(v, r), m.setRegister(v, r));
        return call;
    }

    private static String setInit() {
        int v = mostlyBelow(m.vars);
        int value = anyInt();
        String call = "setInit(" + v + ", " + value + ")";
        check.due(call, x.setInit(v, value), m.setInit(v, value));
        return call;
    }

    private static void compare(String after) {
        compareBlock();
        compareWeights();
        for (int which = -1; which <= 2; which++) {
            compareCode(which);
            compareResults(which);
        }
        compareFarOutside();
        if (check.anyWrong()) {
            System.out.println("  after " + after);
        }
    }

    private static void compareBlock() {
        for (int i = -2; i <= m.block.size(); i++) {
            for (int f = -1; f <= 4; f++) {
                check.due("getStatement(" + i + ", " + f + ")", x.getStatement(i, f),
                        m.getStatement(i, f));
            }
        }
        for (int v = -1; v <= m.vars; v++) {
            for (int f = -1; f <= 2; f++) {
                check.due("getVariable(" + v + ", " + f + ")", x.getVariable(v, f),
                        m.getVariable(v, f));
            }
            check.due("getAddress(" + v + ")", x.getAddress(v), m.getAddress(v));
        }
    }

    private static void compareWeights() {
        // The model is slow at weights, so a few pairs are drawn each time.
        for (int i = 0; i < 12; i++) {
            int u = below(m.vars + 2) - 1;
            int v = below(m.vars + 2) - 1;
            check.due("getWeight(" + u + ", " + v + ")", x.getWeight(u, v), m.getWeight(u, v));
        }
    }

    private static void compareCode(int which) {
        check.due("getCodeLength(" + which + ")", x.getCodeLength(which), m.getCodeLength(which));
        check.due("getAddrLoads(" + which + ")", x.getAddrLoads(which), m.getAddrLoads(which));
        int length = m.getCodeLength(which);
        for (int i = -1; i <= length; i++) {
            for (int f = -1; f <= 3; f++) {
                check.due("getInstr(" + which + ", " + i + ", " + f + ")", x.getInstr(which, i, f),
                        m.getInstr(which, i, f));
            }
        }
    }

    private static void compareResults(int which) {
        check.due("getOutputCount(" + which + ")", x.getOutputCount(which),
                m.getOutputCount(which));
        for (int v = -1; v <= m.vars; v++) {
            check.due("getVar(" + which + ", " + v + ")", x.getVar(which, v), m.getVar(which, v));
        }
        for (int i = -1; i <= 32; i++) {
            check.due("getOutput(" + which + ", " + i + ")", x.getOutput(which, i),
                    m.getOutput(which, i));
        }
    }

    private static void compareFarOutside() {
        for (int i : EDGES) {
            int f = EDGES[below(EDGES.length)];
            int g = EDGES[below(EDGES.length)];
            String pair = "(" + i + ", " + f + ")";
            check.due("getStatement" + pair, x.getStatement(i, f), m.getStatement(i, f));
            check.due("getVariable" + pair, x.getVariable(i, f), m.getVariable(i, f));
            check.due("getWeight" + pair, x.getWeight(i, f), m.getWeight(i, f));
            check.due("getVar" + pair, x.getVar(i, f), m.getVar(i, f));
            check.due("getOutput" + pair, x.getOutput(i, f), m.getOutput(i, f));
            check.due("getAddress(" + i + ")", x.getAddress(i), m.getAddress(i));
            check.due("getCodeLength(" + i + ")", x.getCodeLength(i), m.getCodeLength(i));
            check.due("getAddrLoads(" + i + ")", x.getAddrLoads(i), m.getAddrLoads(i));
            check.due("getOutputCount(" + i + ")", x.getOutputCount(i), m.getOutputCount(i));
            check.due("getInstr(" + i + ", " + f + ", " + g + ")", x.getInstr(i, f, g),
                    m.getInstr(i, f, g));
        }
    }
}
