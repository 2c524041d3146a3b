import java.lang.reflect.Field;

/**
 * The machine's boundary cases that neither program of any block can reach: an address register
 * outside the cells, and an accumulator or address register that is used before it is set. To
 * reach them this test alone looks inside the class: it writes the code of the programs itself,
 * so it has to be changed when the class holds its code in other fields.
 */
public final class MachineEdgeTest {
    private static final int LDAR = 0;
    private static final int LOAD = 1;
    private static final int ADD = 2;
    private static final int XOR = 7;
    private static final int STORE = 8;
    private static final int LDI = 9;
    private static final int OUT = 10;
    private static final int MAX_CODE = 192;
    private static final int[] PROGRAMS = {0, 1};
    private static final Check check = new Check();

    public static void main(String[] args) {
        check.test("Terms: if AR[register] is outside 0..V-1, a read gives 0: LOAD",
                MachineEdgeTest::loadsOutside);
        check.test("Terms: if AR[register] is outside 0..V-1, a read gives 0: ADD..XOR",
                MachineEdgeTest::operatorsOutside);
        check.test("Terms: if AR[register] is outside 0..V-1, a write does nothing",
                MachineEdgeTest::storesOutside);
        check.test("Terms: after the access AR[register] + m, also off the cells and back",
                MachineEdgeTest::stepsOffAndBack);
        check.test("Terms: a run starts with ACC = 0", MachineEdgeTest::startsWithAccumulator);
        check.test("Terms: a run starts with every AR = 0", MachineEdgeTest::startsWithRegisters);
        check.end();
    }

    /** Without statements each program has variable v in cell v, which holds 100 + v at first. */
    private static OffsetAssign machine(int vars, int[]... code) {
        OffsetAssign x = new OffsetAssign(vars, 4);
        for (int v = 0; v < vars; v++) {
            x.setInit(v, 100 + v);
        }
        x.compile();
        for (int which : PROGRAMS) {
            write(x, which, code);
        }
        return x;
    }

    private static void write(OffsetAssign x, int which, int[]... code) {
        for (int i = 0; i < code.length; i++) {
            int at = which * MAX_CODE + i;
            array(x, "opcode")[at] = code[i][0];
            array(x, "instrRegister")[at] = code[i][1];
            array(x, "operand")[at] = code[i][2];
        }
        array(x, "codeLength")[which] = code.length;
    }

    private static int[] array(OffsetAssign x, String name) {
        try {
            Field field = OffsetAssign.class.getDeclaredField(name);
            field.setAccessible(true);
            return (int[]) field.get(x);
        } catch (ReflectiveOperationException thrown) {
            throw new IllegalStateException("the class holds its code otherwise now", thrown);
        }
    }

    /** Runs twice: the second time each program's cells lie beside those of the other's run. */
    private static void outputs(String what, OffsetAssign x, String due) {
        for (int time = 1; time <= 2; time++) {
            x.run();
            for (int which : PROGRAMS) {
                check.due("outputs of " + which + ", run " + time + ", " + what,
                        Shown.outputs(x, which), due);
            }
        }
    }

    private static void loadsOutside() {
        for (int vars : new int[] {2, 16}) {
            for (int cell : Sample.outside(vars)) {
                OffsetAssign x = machine(vars, new int[][] {
                    {LDI, 0, 7}, {LDAR, 1, cell}, {LOAD, 1, 0}, {OUT, 0, 0}
                });
                outputs("cell " + cell + " of " + vars, x, "0");
            }
            OffsetAssign inside = machine(vars, new int[][] {
                {LDAR, 1, 0}, {LOAD, 1, 0}, {OUT, 0, 0},
                {LDAR, 1, vars - 1}, {LOAD, 1, 0}, {OUT, 0, 0}
            });
            outputs("the first and the last cell", inside, "100 " + (99 + vars));
        }
    }

    private static void operatorsOutside() {
        int[] due = {6, 6, 0, 0, 6, 6};
        for (int vars : new int[] {2, 16}) {
            for (int cell : Sample.outside(vars)) {
                for (int op = ADD; op <= XOR; op++) {
                    OffsetAssign x = machine(vars, new int[][] {
                        {LDI, 0, 6}, {LDAR, 3, cell}, {op, 3, 0}, {OUT, 0, 0}
                    });
                    outputs("cell " + cell + ", opcode " + op, x, "" + due[op - ADD]);
                }
            }
        }
    }

    private static void storesOutside() {
        for (int vars : new int[] {2, 16}) {
            for (int cell : Sample.outside(vars)) {
                OffsetAssign x = machine(vars, new int[][] {
                    {LDI, 0, 7}, {LDAR, 0, cell}, {STORE, 0, 0}
                });
                // Only the optimised program writes, so what it did to the other would stay.
                write(x, 0, new int[][] {{LDI, 0, 7}});
                keepsAll(x, vars, "optimised, cell " + cell);
                OffsetAssign y = machine(vars, new int[][] {
                    {LDI, 0, 7}, {LDAR, 0, cell}, {STORE, 0, 0}, {LOAD, 0, 0}, {OUT, 0, 0}
                });
                keepsAll(y, vars, "both, cell " + cell);
                outputs("read back from cell " + cell, y, "0");
            }
        }
    }

    private static void keepsAll(OffsetAssign x, int vars, String what) {
        x.run();
        for (int which : PROGRAMS) {
            for (int v = 0; v < vars; v++) {
                check.due("value of " + v + " in " + which + ", " + what, x.getVar(which, v),
                        100 + v);
            }
        }
    }

    private static void stepsOffAndBack() {
        OffsetAssign below = machine(3, new int[][] {
            {LDAR, 2, 0}, {LOAD, 2, -1}, {OUT, 0, 0}, {LOAD, 2, -1}, {OUT, 0, 0},
            {LOAD, 2, 1}, {LOAD, 2, 1}, {OUT, 0, 0}, {LOAD, 2, 1}, {OUT, 0, 0},
            {LOAD, 2, 0}, {OUT, 0, 0}
        });
        outputs("below", below, "100 0 0 100 101");
        OffsetAssign above = machine(3, new int[][] {
            {LDAR, 2, 2}, {LOAD, 2, 1}, {OUT, 0, 0}, {STORE, 2, 1}, {STORE, 2, -1},
            {LOAD, 2, -1}, {OUT, 0, 0}, {LOAD, 2, 0}, {OUT, 0, 0}
        });
        outputs("above", above, "102 0 102");
    }

    private static void startsWithAccumulator() {
        OffsetAssign x = machine(2, new int[][] {
            {OUT, 0, 0}, {ADD, 0, 0}, {OUT, 0, 0}, {LDI, 0, 55}
        });
        outputs("before it is set", x, "0 100");
    }

    private static void startsWithRegisters() {
        for (int r = 0; r < 4; r++) {
            OffsetAssign x = machine(3, new int[][] {
                {LOAD, r, 1}, {OUT, 0, 0}, {LOAD, r, 1}, {OUT, 0, 0}
            });
            outputs("register " + r, x, "100 101");
        }
    }
}
