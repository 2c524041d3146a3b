import java.util.ArrayDeque;
import java.util.ArrayList;
import java.util.Arrays;
import java.util.Comparator;
import java.util.Deque;
import java.util.HashSet;
import java.util.List;
import java.util.Set;

/**
 * A second reading of the document, written with the Java library and by other means than the
 * class under test, for comparison. It keeps only what the document names and works the rest out
 * when asked; expected values come from the statements themselves, not from running a program.
 */
final class Model {
    enum Phase { EDIT, COMPILED, RAN }

    static final int NONE = Integer.MIN_VALUE;

    final int vars;
    final int regs;
    final int[] reg;
    final int[] init;
    final List<int[]> block = new ArrayList<>();
    Phase phase = Phase.EDIT;
    private List<Integer> layout;
    private List<List<int[]>> programs;
    private int[] finalValues;
    private List<Integer> outputs;

    Model(int numVars, int numRegs) {
        vars = Math.max(2, Math.min(16, numVars));
        regs = Math.max(1, Math.min(4, numRegs));
        reg = new int[vars];
        init = new int[vars];
    }

    private boolean isVar(int v) {
        return 0 <= v && v < vars;
    }

    void clear() {
        block.clear();
        phase = Phase.EDIT;
    }

    /** The variables read and then written, in order. */
    private static List<Integer> accesses(int[] s) {
        return switch (s[0]) {
            case 6 -> List.of(s[2], s[1]);
            case 7 -> List.of(s[1]);
            case 8 -> List.of(s[2]);
            default -> List.of(s[2], s[3], s[1]);
        };
    }

    int addStatement(int op, int dest, int a, int b) {
        if (block.size() == 32) {
            return -1;
        }
        if (op < 0 || op > 8) {
            return -2;
        }
        int[] statement = {op, dest, a, b};
        if (!accesses(statement).stream().allMatch(this::isVar)) {
            return -3;
        }
        block.add(statement);
        phase = Phase.EDIT;
        return block.size() - 1;
    }

    boolean setRegister(int v, int r) {
        if (!isVar(v) || r < 0 || r >= regs) {
            return false;
        }
        reg[v] = r;
        phase = Phase.EDIT;
        return true;
    }

    boolean setInit(int v, int value) {
        if (!isVar(v)) {
            return false;
        }
        init[v] = value;
        if (phase == Phase.RAN) {
            phase = Phase.COMPILED;
        }
        return true;
    }

    int compile() {
        layout = layOut();
        programs = List.of(naive(), optimised());
        phase = Phase.COMPILED;
        return expectedLoads();
    }

    int run() {
        if (phase == Phase.EDIT) {
            return -1;
        }
        interpret();
        phase = Phase.RAN;
        return outputs.size();
    }

    int getStatement(int index, int field) {
        if (index == -1) {
            return block.size();
        }
        boolean known = index >= 0 && index < block.size() && field >= 0 && field <= 3;
        return known ? block.get(index)[field] : NONE;
    }

    int getVariable(int v, int field) {
        if (!isVar(v) || field < 0 || field > 1) {
            return NONE;
        }
        return field == 0 ? reg[v] : init[v];
    }

    int getWeight(int u, int v) {
        if (!isVar(u) || !isVar(v) || u == v || reg[u] != reg[v]) {
            return 0;
        }
        List<Integer> sequence = sequenceOf(reg[u]);
        int weight = 0;
        for (int i = 0; i + 1 < sequence.size(); i++) {
            Set<Integer> pair = new HashSet<>(sequence.subList(i, i + 2));
            if (pair.equals(Set.of(u, v))) {
                weight++;
            }
        }
        return weight;
    }

    int getAddress(int v) {
        return phase == Phase.EDIT || !isVar(v) ? -1 : layout.indexOf(v);
    }

    private boolean isCompiled(int which) {
        return phase != Phase.EDIT && (which == 0 || which == 1);
    }

    private boolean hasRun(int which) {
        return phase == Phase.RAN && (which == 0 || which == 1);
    }

    int getCodeLength(int which) {
        return isCompiled(which) ? programs.get(which).size() : -1;
    }

    int getAddrLoads(int which) {
        if (!isCompiled(which)) {
            return -1;
        }
        return which == 0 ? allAccesses().size() : expectedLoads();
    }

    int getInstr(int which, int index, int field) {
        if (!isCompiled(which) || index < 0 || index >= getCodeLength(which)) {
            return NONE;
        }
        return field < 0 || field > 2 ? NONE : programs.get(which).get(index)[field];
    }

    int getVar(int which, int v) {
        return hasRun(which) && isVar(v) ? finalValues[v] : 0;
    }

    int getOutputCount(int which) {
        return hasRun(which) ? outputs.size() : -1;
    }

    int getOutput(int which, int index) {
        boolean known = hasRun(which) && index >= 0 && index < outputs.size();
        return known ? outputs.get(index) : 0;
    }

    private List<Integer> allAccesses() {
        List<Integer> all = new ArrayList<>();
        block.forEach(statement -> all.addAll(accesses(statement)));
        return all;
    }

    private List<Integer> sequenceOf(int r) {
        List<Integer> sequence = allAccesses();
        sequence.removeIf(v -> reg[v] != r);
        return sequence;
    }

    /** The equality of promise 6. */
    private int expectedLoads() {
        int loads = 0;
        for (int r = 0; r < regs; r++) {
            List<Integer> sequence = sequenceOf(r);
            loads += sequence.isEmpty() ? 0 : 1;
            for (int i = 0; i + 1 < sequence.size(); i++) {
                int from = layout.indexOf(sequence.get(i));
                int to = layout.indexOf(sequence.get(i + 1));
                loads += Math.abs(from - to) > 1 ? 1 : 0;
            }
        }
        return loads;
    }

    /** The variables in the order of their addresses. */
    private List<Integer> layOut() {
        List<Integer> all = new ArrayList<>();
        for (int r = 0; r < regs; r++) {
            List<Set<Integer>> neighbours = acceptedEdges(r);
            List<List<Integer>> paths = new ArrayList<>();
            Set<Integer> done = new HashSet<>();
            for (int v = 0; v < vars; v++) {
                boolean end = reg[v] == r && neighbours.get(v).size() < 2;
                if (end && !done.contains(v)) {
                    List<Integer> path = reachable(neighbours, v);
                    done.addAll(path);
                    paths.add(path);
                }
            }
            paths.sort(Comparator.comparing(path -> path.stream().min(Integer::compare).get()));
            paths.forEach(all::addAll);
        }
        return all;
    }

    private List<Set<Integer>> acceptedEdges(int r) {
        List<int[]> edges = new ArrayList<>();
        for (int u = 0; u < vars; u++) {
            for (int v = u + 1; v < vars; v++) {
                int weight = reg[u] == r ? getWeight(u, v) : 0;
                if (weight > 0) {
                    edges.add(new int[] {-weight, u, v});
                }
            }
        }
        edges.sort(Arrays::compare);
        List<Set<Integer>> neighbours = new ArrayList<>();
        for (int v = 0; v < vars; v++) {
            neighbours.add(new HashSet<>());
        }
        for (int[] edge : edges) {
            Set<Integer> ofU = neighbours.get(edge[1]);
            Set<Integer> ofV = neighbours.get(edge[2]);
            boolean room = ofU.size() < 2 && ofV.size() < 2;
            if (room && !reachable(neighbours, edge[1]).contains(edge[2])) {
                ofU.add(edge[2]);
                ofV.add(edge[1]);
            }
        }
        return neighbours;
    }

    /** From the end of a path this visits its variables in the path's order. */
    private static List<Integer> reachable(List<Set<Integer>> neighbours, int start) {
        List<Integer> seen = new ArrayList<>(List.of(start));
        Deque<Integer> waiting = new ArrayDeque<>(List.of(start));
        while (!waiting.isEmpty()) {
            for (int next : neighbours.get(waiting.remove())) {
                if (!seen.contains(next)) {
                    seen.add(next);
                    waiting.add(next);
                }
            }
        }
        return seen;
    }

    private List<int[]> naive() {
        List<int[]> code = new ArrayList<>();
        for (int[] s : block) {
            List<Integer> opcodes = accessOpcodes(s[0]);
            if (s[0] == 7) {
                code.add(new int[] {9, 0, s[2]});
            }
            for (int i = 0; i < opcodes.size(); i++) {
                int v = accesses(s).get(i);
                code.add(new int[] {0, reg[v], v});
                code.add(new int[] {opcodes.get(i), reg[v], 0});
            }
            if (s[0] == 8) {
                code.add(new int[] {10, 0, 0});
            }
        }
        return code;
    }

    private static List<Integer> accessOpcodes(int op) {
        return switch (op) {
            case 6 -> List.of(1, 8);
            case 7 -> List.of(8);
            case 8 -> List.of(1);
            default -> List.of(1, 2 + op, 8);
        };
    }

    /**
     * The naive program with the loads dropped that a step before makes needless: an access needs
     * one iff it is its register's first or lies more than a cell from the one before.
     */
    private List<int[]> optimised() {
        List<int[]> code = new ArrayList<>();
        List<List<Integer>> rest = new ArrayList<>();
        for (int r = 0; r < regs; r++) {
            rest.add(sequenceOf(r));
        }
        int[] last = new int[regs];
        Arrays.fill(last, -9);
        for (int[] instruction : naive()) {
            int op = instruction[0];
            if (op == 0) {
                int p = layout.indexOf(instruction[2]);
                if (Math.abs(last[instruction[1]] - p) > 1) {
                    code.add(new int[] {0, instruction[1], p});
                }
            } else if (op >= 9) {
                code.add(instruction);
            } else {
                int r = instruction[1];
                int p = layout.indexOf(rest.get(r).remove(0));
                int step = rest.get(r).isEmpty() ? 0 : layout.indexOf(rest.get(r).get(0)) - p;
                code.add(new int[] {op, r, Math.abs(step) > 1 ? 0 : step});
                last[r] = p;
            }
        }
        return code;
    }

    private void interpret() {
        int[] value = init.clone();
        outputs = new ArrayList<>();
        for (int[] s : block) {
            switch (s[0]) {
                case 0 -> value[s[1]] = value[s[2]] + value[s[3]];
                case 1 -> value[s[1]] = value[s[2]] - value[s[3]];
                case 2 -> value[s[1]] = value[s[2]] * value[s[3]];
                case 3 -> value[s[1]] = value[s[2]] & value[s[3]];
                case 4 -> value[s[1]] = value[s[2]] | value[s[3]];
                case 5 -> value[s[1]] = value[s[2]] ^ value[s[3]];
                case 6 -> value[s[1]] = value[s[2]];
                case 7 -> value[s[1]] = s[2];
                default -> outputs.add(value[s[2]]);
            }
        }
        finalValues = value;
    }
}
