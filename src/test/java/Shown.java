/** What the getters tell of an object, as short texts that a test can compare at once. */
final class Shown {
    private static final String[] OPCODES = {
        "LDAR", "LOAD", "ADD", "SUB", "MUL", "AND", "OR", "XOR", "STORE", "LDI", "OUT"
    };

    static String statement(OffsetAssign x, int index) {
        StringBuilder text = new StringBuilder();
        for (int field = 0; field <= 3; field++) {
            text.append(field == 0 ? "" : " ").append(x.getStatement(index, field));
        }
        return text.toString();
    }

    /** The addresses of variables 0, 1, .. up to the first that is refused. */
    static String addresses(OffsetAssign x) {
        StringBuilder text = new StringBuilder();
        for (int v = 0; v <= 16 && x.getAddress(v) >= 0; v++) {
            text.append(v == 0 ? "" : " ").append(x.getAddress(v));
        }
        return text.toString();
    }

    /** Each instruction as opcode, register, operand. */
    static String code(OffsetAssign x, int which) {
        StringBuilder text = new StringBuilder();
        for (int i = 0; i < x.getCodeLength(which); i++) {
            text.append(i == 0 ? "" : ", ").append(OPCODES[x.getInstr(which, i, 0)]);
            text.append(" ").append(x.getInstr(which, i, 1));
            text.append(" ").append(x.getInstr(which, i, 2));
        }
        return text.toString();
    }

    static String outputs(OffsetAssign x, int which) {
        StringBuilder text = new StringBuilder();
        for (int i = 0; i < x.getOutputCount(which); i++) {
            text.append(i == 0 ? "" : " ").append(x.getOutput(which, i));
        }
        return text.toString();
    }

    /** The final values of the variables in program which. */
    static String values(OffsetAssign x, int which) {
        StringBuilder text = new StringBuilder();
        for (int v = 0; v < variables(x); v++) {
            text.append(v == 0 ? "" : " ").append(x.getVar(which, v));
        }
        return text.toString();
    }

    static int variables(OffsetAssign x) {
        int count = 0;
        while (count <= 16 && x.getVariable(count, 0) != Integer.MIN_VALUE) {
            count++;
        }
        return count;
    }

    /** The block, the registers and initial values, in every phase. */
    static String entered(OffsetAssign x) {
        StringBuilder text = new StringBuilder("block");
        for (int i = 0; i < x.getStatement(-1, 0); i++) {
            text.append(" (").append(statement(x, i)).append(")");
        }
        for (int v = 0; v < variables(x); v++) {
            text.append(" v").append(v).append(" in ").append(x.getVariable(v, 0));
            text.append(" = ").append(x.getVariable(v, 1));
        }
        return text.toString();
    }

    /** All that the getters tell: two objects with the same text are the same to a caller. */
    static String everything(OffsetAssign x) {
        StringBuilder text = new StringBuilder(phase(x)).append(" ").append(entered(x));
        text.append(" weights");
        for (int u = 0; u < variables(x); u++) {
            for (int v = 0; v < u; v++) {
                text.append(" ").append(x.getWeight(u, v));
            }
        }
        text.append(" addresses ").append(addresses(x));
        for (int which = 0; which <= 1; which++) {
            text.append(" program ").append(which);
            text.append(" loads ").append(x.getAddrLoads(which));
            text.append(" code ").append(code(x, which));
            text.append(" values ").append(values(x, which));
            text.append(" outputs ").append(x.getOutputCount(which));
            text.append(": ").append(outputs(x, which));
        }
        return text.toString();
    }

    static String phase(OffsetAssign x) {
        if (x.getOutputCount(0) >= 0) {
            return "RAN";
        }
        return x.getCodeLength(0) >= 0 ? "COMPILED" : "EDIT";
    }

    private Shown() {
    }
}
