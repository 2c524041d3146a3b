/** What the getters tell of an object, as short texts that a test can compare at once. */
final class Shown {
    private static final String[] OPCODES = {
        "LDAR", "LOAD", "ADD", "SUB", "MUL", "AND", "OR", "XOR", "STORE", "LDI", "OUT"
    };

    static String statement(OffsetAssign x, int index) {
        StringBuilder text = new StringBuilder();
        for (int field = 0; field <= 3; field++) {
            text.append(field == 0 ? "" : " ").append(x.getStatement(index, field));
        }
        return text.toString();
    }

    /** The addresses of variables 0, 1, .. up to the first that is refused. */
    static String addresses(OffsetAssign x) {
        StringBuilder text = new StringBuilder();
        for (int v = 0; x.getAddress(v) >= 0; v++) {
            text.append(v == 0 ? "" : " ").append(x.getAddress(v));
        }
        return text.toString();
    }

    /** Each instruction as opcode, register, operand. */
    static String code(OffsetAssign x, int which) {
        StringBuilder text = new StringBuilder();
        for (int i = 0; i < x.getCodeLength(which); i++) {
            text.append(i == 0 ? "" : ", ").append(OPCODES[x.getInstr(which, i, 0)]);
            text.append(" ").append(x.getInstr(which, i, 1));
            text.append(" ").append(x.getInstr(which, i, 2));
        }
        return text.toString();
    }

    static String outputs(OffsetAssign x, int which) {
        StringBuilder text = new StringBuilder();
        for (int i = 0; i < x.getOutputCount(which); i++) {
            text.append(i == 0 ? "" : " ").append(x.getOutput(which, i));
        }
        return text.toString();
    }

    static String phase(OffsetAssign x) {
        if (x.getOutputCount(0) >= 0) {
            return "RAN";
        }
        return x.getCodeLength(0) >= 0 ? "COMPILED" : "EDIT";
    }

    private Shown() {
    }
}
