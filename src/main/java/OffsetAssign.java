/**
 * Lays out variables and compiles a block of statements for an accumulator machine whose address
 * registers can step by one cell after each access.
 */
public final class OffsetAssign {
    public static final int OP_ADD = 0;
    public static final int OP_SUB = 1;
    public static final int OP_MUL = 2;
    public static final int OP_AND = 3;
    public static final int OP_OR = 4;
    public static final int OP_XOR = 5;
    public static final int OP_COPY = 6;
    public static final int OP_CONST = 7;
    public static final int OP_OUT = 8;
    public static final int I_LDAR = 0;
    public static final int I_LOAD = 1;
    public static final int I_ADD = 2;
    public static final int I_SUB = 3;
    public static final int I_MUL = 4;
    public static final int I_AND = 5;
    public static final int I_OR = 6;
    public static final int I_XOR = 7;
    public static final int I_STORE = 8;
    public static final int I_LDI = 9;
    public static final int I_OUT = 10;
    public static final int ERR_FULL = -1;
    public static final int ERR_OP = -2;
    public static final int ERR_VAR = -3;
    public static final int NAIVE = 0;
    public static final int OPTIMISED = 1;
    public static final int MAX_STATEMENTS = 32;
    public static final int MAX_CODE = 192;
    public static final int NONE = -2147483648;

    private static final int MIN_VARS = 2;
    private static final int MAX_VARS = 16;
    private static final int MIN_REGS = 1;
    private static final int MAX_REGS = 4;
    private static final int PROGRAMS = 2;

    private static final int STATEMENT_FIELDS = 4;
    private static final int FIELD_OP = 0;
    private static final int FIELD_DEST = 1;
    private static final int FIELD_A = 2;
    private static final int FIELD_B = 3;

    // A statement makes at most three accesses, so this is 3 * MAX_STATEMENTS.
    private static final int MAX_ACCESSES = 96;

    // Arrays are one-dimensional, so tables are kept flat: a square of MAX_VARS, and two programs
    // side by side (each with MAX_VARS cells, MAX_CODE instructions and MAX_STATEMENTS outputs).
    private static final int WEIGHT_CELLS = 256;
    private static final int STATEMENT_CELLS = 128;
    private static final int MEMORY_CELLS = 32;
    private static final int CODE_CELLS = 384;
    private static final int OUTPUT_CELLS = 64;

    private static final int PHASE_EDIT = 0;
    private static final int PHASE_COMPILED = 1;
    private static final int PHASE_RAN = 2;

    // Stands where no address, no variable or no access is meant; none of these is ever negative.
    private static final int ABSENT = -1;

    private final int varCount;
    private final int regCount;
    private int phase = PHASE_EDIT;

    private final int[] register = new int[MAX_VARS];
    private final int[] init = new int[MAX_VARS];

    private final int[] statements = new int[STATEMENT_CELLS];
    private int statementCount = 0;

    // The variables of the access sequence A; it grows with the block, so it is never out of date.
    private final int[] accessVar = new int[MAX_ACCESSES];
    private int accessCount = 0;

    // For each access the next one of the same register, or ABSENT, as of the last compile.
    private final int[] follower = new int[MAX_ACCESSES];
    private final int[] weight = new int[WEIGHT_CELLS];
    private final int[] firstLink = new int[MAX_VARS];
    private final int[] secondLink = new int[MAX_VARS];
    private final int[] chain = new int[MAX_VARS];
    private final int[] address = new int[MAX_VARS];
    private int nextAddress = 0;

    private final int[] opcode = new int[CODE_CELLS];
    private final int[] instrRegister = new int[CODE_CELLS];
    private final int[] operand = new int[CODE_CELLS];
    private final int[] codeLength = new int[PROGRAMS];
    private final int[] addrLoads = new int[PROGRAMS];
    private final int[] knownAddress = new int[MAX_REGS];

    private final int[] memory = new int[MEMORY_CELLS];
    private final int[] addressRegister = new int[MAX_REGS];
    private int accumulator = 0;
    private final int[] output = new int[OUTPUT_CELLS];
    private final int[] outputCount = new int[PROGRAMS];

    public OffsetAssign(int numVars, int numRegs) {
        varCount = clamp(numVars, MIN_VARS, MAX_VARS);
        regCount = clamp(numRegs, MIN_REGS, MAX_REGS);
    }

    public void clear() {
        statementCount = 0;
        accessCount = 0;
        phase = PHASE_EDIT;
    }

    public int addStatement(int op, int dest, int a, int b) {
        if (statementCount >= MAX_STATEMENTS) {
            return ERR_FULL;
        }
        if (op < OP_ADD || op > OP_OUT) {
            return ERR_OP;
        }
        if (!usesOnlyVariables(op, dest, a, b)) {
            return ERR_VAR;
        }
        int number = statementCount;
        storeStatement(number, op, dest, a, b);
        appendAccesses(op, dest, a, b);
        statementCount = number + 1;
        phase = PHASE_EDIT;
        return number;
    }

    public boolean setRegister(int v, int r) {
        if (!isVariable(v) || r < 0 || r >= regCount) {
            return false;
        }
        register[v] = r;
        phase = PHASE_EDIT;
        return true;
    }

    public boolean setInit(int v, int value) {
        if (!isVariable(v)) {
            return false;
        }
        init[v] = value;
        if (phase == PHASE_RAN) {
            phase = PHASE_COMPILED;
        }
        return true;
    }

    public int compile() {
        findFollowers();
        countWeights();
        joinChains();
        assignAddresses();
        translateBlock(NAIVE);
        translateBlock(OPTIMISED);
        phase = PHASE_COMPILED;
        return addrLoads[OPTIMISED];
    }

    public int run() {
        if (phase == PHASE_EDIT) {
            return -1;
        }
        runProgram(NAIVE);
        runProgram(OPTIMISED);
        phase = PHASE_RAN;
        return outputCount[OPTIMISED];
    }

    public int getStatement(int index, int field) {
        if (index == -1) {
            return statementCount;
        }
        if (index < 0 || index >= statementCount || field < 0 || field >= STATEMENT_FIELDS) {
            return NONE;
        }
        return statements[index * STATEMENT_FIELDS + field];
    }

    public int getVariable(int v, int field) {
        if (!isVariable(v)) {
            return NONE;
        }
        if (field == 0) {
            return register[v];
        }
        if (field == 1) {
            return init[v];
        }
        return NONE;
    }

    public int getWeight(int u, int v) {
        if (!isVariable(u) || !isVariable(v) || u == v || register[u] != register[v]) {
            return 0;
        }
        // Counted anew rather than read from the compiled weights: the block or the registers may
        // have changed since the last compile.
        int count = 0;
        int previous = ABSENT;
        for (int i = 0; i < accessCount; i++) {
            int current = accessVar[i];
            if (register[current] == register[u]) {
                if ((previous == u && current == v) || (previous == v && current == u)) {
                    count++;
                }
                previous = current;
            }
        }
        return count;
    }

    public int getAddress(int v) {
        if (phase == PHASE_EDIT || !isVariable(v)) {
            return -1;
        }
        return address[v];
    }

    public int getCodeLength(int which) {
        if (phase == PHASE_EDIT || !isProgram(which)) {
            return -1;
        }
        return codeLength[which];
    }

    public int getAddrLoads(int which) {
        if (phase == PHASE_EDIT || !isProgram(which)) {
            return -1;
        }
        return addrLoads[which];
    }

    public int getInstr(int which, int index, int field) {
        if (phase == PHASE_EDIT || !isProgram(which)) {
            return NONE;
        }
        if (index < 0 || index >= codeLength[which]) {
            return NONE;
        }
        int at = which * MAX_CODE + index;
        switch (field) {
            case 0:
                return opcode[at];
            case 1:
                return instrRegister[at];
            case 2:
                return operand[at];
            default:
                return NONE;
        }
    }

    public int getVar(int which, int v) {
        if (phase != PHASE_RAN || !isProgram(which) || !isVariable(v)) {
            return 0;
        }
        int cell = addressIn(which, v);
        return memory[which * MAX_VARS + cell];
    }

    public int getOutputCount(int which) {
        if (phase != PHASE_RAN || !isProgram(which)) {
            return -1;
        }
        return outputCount[which];
    }

    public int getOutput(int which, int index) {
        if (phase != PHASE_RAN || !isProgram(which)) {
            return 0;
        }
        if (index < 0 || index >= outputCount[which]) {
            return 0;
        }
        return output[which * MAX_STATEMENTS + index];
    }

    private static int clamp(int value, int least, int greatest) {
        if (value < least) {
            return least;
        }
        if (value > greatest) {
            return greatest;
        }
        return value;
    }

    private boolean isVariable(int v) {
        return v >= 0 && v < varCount;
    }

    private boolean isProgram(int which) {
        return which == NAIVE || which == OPTIMISED;
    }

    private boolean usesOnlyVariables(int op, int dest, int a, int b) {
        switch (op) {
            case OP_COPY:
                return isVariable(dest) && isVariable(a);
            case OP_CONST:
                return isVariable(dest);
            case OP_OUT:
                return isVariable(a);
            default:
                return isVariable(dest) && isVariable(a) && isVariable(b);
        }
    }

    private void storeStatement(int number, int op, int dest, int a, int b) {
        int at = number * STATEMENT_FIELDS;
        statements[at + FIELD_OP] = op;
        statements[at + FIELD_DEST] = dest;
        statements[at + FIELD_A] = a;
        statements[at + FIELD_B] = b;
    }

    private void appendAccesses(int op, int dest, int a, int b) {
        if (op != OP_CONST) {
            appendAccess(a);
        }
        if (op <= OP_XOR) {
            appendAccess(b);
        }
        if (op != OP_OUT) {
            appendAccess(dest);
        }
    }

    private void appendAccess(int v) {
        // There is room: addStatement lets in at most MAX_STATEMENTS, each with three accesses.
        accessVar[accessCount] = v;
        accessCount++;
    }

    private void findFollowers() {
        for (int i = 0; i < accessCount; i++) {
            follower[i] = nextOfSameRegister(i);
        }
    }

    private int nextOfSameRegister(int position) {
        int r = register[accessVar[position]];
        for (int i = position + 1; i < accessCount; i++) {
            if (register[accessVar[i]] == r) {
                return i;
            }
        }
        return ABSENT;
    }

    private void countWeights() {
        for (int i = 0; i < WEIGHT_CELLS; i++) {
            weight[i] = 0;
        }
        for (int i = 0; i < accessCount; i++) {
            if (follower[i] != ABSENT) {
                countPair(accessVar[i], accessVar[follower[i]]);
            }
        }
    }

    private void countPair(int u, int v) {
        if (u != v) {
            weight[u * MAX_VARS + v]++;
            weight[v * MAX_VARS + u]++;
        }
    }

    /**
     * Accepts edges heaviest first. All registers are done in one scan: variables of different
     * registers have weight 0 between them, so no edge of one register bears on another's.
     */
    private void joinChains() {
        for (int v = 0; v < varCount; v++) {
            firstLink[v] = ABSENT;
            secondLink[v] = ABSENT;
            chain[v] = v;
        }
        for (int w = MAX_ACCESSES - 1; w > 0; w--) {
            for (int u = 0; u < varCount; u++) {
                for (int v = u + 1; v < varCount; v++) {
                    if (weight[u * MAX_VARS + v] == w && canJoin(u, v)) {
                        join(u, v);
                    }
                }
            }
        }
    }

    private boolean canJoin(int u, int v) {
        return secondLink[u] == ABSENT && secondLink[v] == ABSENT && chain[u] != chain[v];
    }

    private void join(int u, int v) {
        link(u, v);
        link(v, u);
        int kept = chain[u];
        int dropped = chain[v];
        for (int i = 0; i < varCount; i++) {
            if (chain[i] == dropped) {
                chain[i] = kept;
            }
        }
    }

    private void link(int from, int to) {
        if (firstLink[from] == ABSENT) {
            firstLink[from] = to;
        } else {
            secondLink[from] = to;
        }
    }

    private void assignAddresses() {
        for (int v = 0; v < varCount; v++) {
            address[v] = ABSENT;
        }
        nextAddress = 0;
        for (int r = 0; r < regCount; r++) {
            // Ascending variables meet each path first at its smallest one, so paths come in order.
            for (int v = 0; v < varCount; v++) {
                if (register[v] == r && address[v] == ABSENT) {
                    placePath(v);
                }
            }
        }
    }

    private void placePath(int member) {
        int previous = ABSENT;
        int current = smallerEnd(member);
        for (int i = 0; i < varCount && current != ABSENT; i++) {
            address[current] = nextAddress;
            nextAddress++;
            int next = firstLink[current] != previous ? firstLink[current] : secondLink[current];
            previous = current;
            current = next;
        }
    }

    private int smallerEnd(int member) {
        for (int v = 0; v < varCount; v++) {
            if (chain[v] == chain[member] && secondLink[v] == ABSENT) {
                return v;
            }
        }
        return ABSENT;
    }

    private int addressIn(int which, int v) {
        return which == NAIVE ? v : address[v];
    }

    private void translateBlock(int which) {
        codeLength[which] = 0;
        addrLoads[which] = 0;
        for (int r = 0; r < regCount; r++) {
            knownAddress[r] = ABSENT;
        }
        int position = 0;
        for (int s = 0; s < statementCount; s++) {
            position = translateStatement(which, s, position);
        }
    }

    /** Takes the position of the statement's first access and answers that of the next one's. */
    private int translateStatement(int which, int number, int position) {
        int at = number * STATEMENT_FIELDS;
        int op = statements[at + FIELD_OP];
        switch (op) {
            case OP_COPY:
                emitAccess(which, I_LOAD, position);
                emitAccess(which, I_STORE, position + 1);
                return position + 2;
            case OP_CONST:
                emit(which, I_LDI, 0, statements[at + FIELD_A]);
                emitAccess(which, I_STORE, position);
                return position + 1;
            case OP_OUT:
                emitAccess(which, I_LOAD, position);
                emit(which, I_OUT, 0, 0);
                return position + 1;
            default:
                emitAccess(which, I_LOAD, position);
                emitAccess(which, I_ADD + op, position + 1);
                emitAccess(which, I_STORE, position + 2);
                return position + 3;
        }
    }

    private void emitAccess(int which, int code, int position) {
        int v = accessVar[position];
        int r = register[v];
        int p = addressIn(which, v);
        if (which == NAIVE || knownAddress[r] != p) {
            emit(which, I_LDAR, r, p);
        }
        int step = which == NAIVE ? 0 : stepAfter(position);
        emit(which, code, r, step);
        knownAddress[r] = p + step;
    }

    /** The modifier that leads to the register's next access, or 0 where none can. */
    private int stepAfter(int position) {
        int next = follower[position];
        if (next == ABSENT) {
            return 0;
        }
        int distance = address[accessVar[next]] - address[accessVar[position]];
        return distance >= -1 && distance <= 1 ? distance : 0;
    }

    private void emit(int which, int code, int r, int value) {
        // There is room: a statement takes at most six instructions, 6 * MAX_STATEMENTS in all.
        int at = which * MAX_CODE + codeLength[which];
        opcode[at] = code;
        instrRegister[at] = r;
        operand[at] = value;
        codeLength[which]++;
        if (code == I_LDAR) {
            addrLoads[which]++;
        }
    }

    private void runProgram(int which) {
        for (int v = 0; v < varCount; v++) {
            int cell = addressIn(which, v);
            memory[which * MAX_VARS + cell] = init[v];
        }
        for (int r = 0; r < regCount; r++) {
            addressRegister[r] = 0;
        }
        accumulator = 0;
        outputCount[which] = 0;
        for (int i = 0; i < codeLength[which]; i++) {
            execute(which, which * MAX_CODE + i);
        }
    }

    private void execute(int which, int at) {
        switch (opcode[at]) {
            case I_LDAR:
                addressRegister[instrRegister[at]] = operand[at];
                break;
            case I_LDI:
                accumulator = operand[at];
                break;
            case I_OUT:
                output[which * MAX_STATEMENTS + outputCount[which]] = accumulator;
                outputCount[which]++;
                break;
            default:
                executeAccess(which, at);
                break;
        }
    }

    private void executeAccess(int which, int at) {
        int r = instrRegister[at];
        int cell = addressRegister[r];
        // Cells are numbered as variables are, so the same bounds hold.
        boolean inside = isVariable(cell);
        int place = which * MAX_VARS + cell;
        if (opcode[at] != I_STORE) {
            accumulator = combine(opcode[at], accumulator, inside ? memory[place] : 0);
        } else if (inside) {
            memory[place] = accumulator;
        }
        addressRegister[r] = cell + operand[at];
    }

    private static int combine(int code, int left, int right) {
        switch (code) {
            case I_ADD:
                return left + right;
            case I_SUB:
                return left - right;
            case I_MUL:
                return left * right;
            case I_AND:
                return left & right;
            case I_OR:
                return left | right;
            case I_XOR:
                return left ^ right;
            default:
                return right;
        }
    }
}
