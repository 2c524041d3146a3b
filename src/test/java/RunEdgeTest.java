/**
 * The boundary cases of promise 7 and of the machine it rests on: one test for each sentence of the
 * document that names one.
 */
public final class RunEdgeTest {
    private static final int MIN = Sample.MIN;
    private static final int MAX = Sample.MAX;
    private static final Check check = new Check();

    public static void main(String[] args) {
        running();
        arithmetic();
        check.end();
    }

    private static void running() {
        check.test("7: in phase EDIT answers -1 and changes nothing", RunEdgeTest::inEdit);
        check.test("7: otherwise (COMPILED or RAN) the phase becomes RAN",
                RunEdgeTest::becomesRan);
        check.test("7: with the current init values", RunEdgeTest::currentInits);
        check.test("7: answers the optimised program's number of outputs: none",
                RunEdgeTest::noOutputs);
        check.test("7: answers the optimised program's number of outputs: 32",
                RunEdgeTest::mostOutputs);
        check.test("7: running again in phase RAN repeats this from fresh starts",
                RunEdgeTest::freshStarts);
        check.test("7: and replaces the kept results", RunEdgeTest::replacesResults);
        check.test("7: after a run both programs agree in outputs and final values",
                RunEdgeTest::programsAgree);
        check.test("7: an empty block", RunEdgeTest::emptyBlock);
        check.test("7: run() changes neither block nor registers, init values, layout, programs",
                RunEdgeTest::keepsTheRest);
        check.test("Terms: a run starts with cell p holding init(v) (any int)",
                RunEdgeTest::startsFromInits);
        check.test("Terms: then each instruction runs once, in order, and none after the last",
                RunEdgeTest::runsNoMore);
        check.test("Terms: after the access AR[register] = AR[register] + m",
                RunEdgeTest::stepsAfterTheAccess);
    }

    private static void arithmetic() {
        check.test("Terms: arithmetic wraps: ADD a+b", RunEdgeTest::additions);
        check.test("Terms: arithmetic wraps: SUB a-b", RunEdgeTest::subtractions);
        check.test("Terms: arithmetic wraps: MUL a*b", RunEdgeTest::multiplications);
        check.test("Terms: 32-bit two's complement: AND a&b", RunEdgeTest::ands);
        check.test("Terms: 32-bit two's complement: OR a|b", RunEdgeTest::ors);
        check.test("Terms: 32-bit two's complement: XOR a^b", RunEdgeTest::xors);
        check.test("Terms: OP_COPY and OP_CONST of any int", RunEdgeTest::copiesAndConstants);
        check.test("Terms: a result wraps again in the next statement",
                RunEdgeTest::wrapsAgain);
        check.test("Terms: read a, read b, write dest, where all are one variable", RunEdgeTest::oneVariable);
    }

    private static void leaves(String what, OffsetAssign x, String values, String outputs) {
        int count = outputs.isEmpty() ? 0 : outputs.split(" ").length;
        check.due("run(), " + what, x.run(), count);
        check.due("phase, " + what, Shown.phase(x), "RAN");
        for (int which = 0; which <= 1; which++) {
            check.due("values of " + which + ", " + what, Shown.values(x, which), values);
            check.due("outputs of " + which + ", " + what, Shown.outputs(x, which), outputs);
            check.due("count of " + which + ", " + what, x.getOutputCount(which), count);
        }
    }

    private static void inEdit() {
        OffsetAssign start = new OffsetAssign(2, 1);
        check.due("at the start", start.run(), -1);
        Sample.sameFromNowOn(check, "run at the start", start, new OffsetAssign(2, 1));
        OffsetAssign edited = Sample.in("EDIT");
        check.due("with a block", edited.run(), -1);
        check.due("and again", edited.run(), -1);
        Sample.sameFromNowOn(check, "run in EDIT", edited, Sample.in("EDIT"));
        for (String phase : Sample.PHASES) {
            OffsetAssign cleared = Sample.in(phase);
            cleared.clear();
            check.due("after clear in " + phase, cleared.run(), -1);
            check.due("phase after clear", Shown.phase(cleared), "EDIT");
            OffsetAssign added = Sample.in(phase);
            added.addStatement(7, 0, 1, 1);
            check.due("after addStatement in " + phase, added.run(), -1);
            check.due("phase after addStatement", Shown.phase(added), "EDIT");
            OffsetAssign set = Sample.in(phase);
            set.setRegister(1, 0);
            check.due("after setRegister in " + phase, set.run(), -1);
            check.due("phase after setRegister", Shown.phase(set), "EDIT");
        }
    }

    private static void becomesRan() {
        leaves("COMPILED", Sample.in("COMPILED"), Sample.VALUES, Sample.OUTPUTS);
        leaves("RAN", Sample.in("RAN"), Sample.VALUES, Sample.OUTPUTS);
        OffsetAssign x = Sample.in("RAN");
        x.compile();
        leaves("COMPILED after RAN", x, Sample.VALUES, Sample.OUTPUTS);
        x.setInit(0, 5);
        leaves("COMPILED by setInit", x, Sample.VALUES, Sample.OUTPUTS);
        x.addStatement(9, 0, 0, 0);
        x.setRegister(0, 2);
        x.setInit(3, 0);
        leaves("RAN after refusals", x, Sample.VALUES, Sample.OUTPUTS);
    }

    private static void currentInits() {
        for (String phase : new String[] {"COMPILED", "RAN"}) {
            OffsetAssign x = Sample.in(phase);
            x.setInit(0, 1);
            // v2 = 1 + 7, v0 = 8 * 7.
            leaves("v0 = 1", x, "56 7 8", "8 56");
            x.setInit(1, -1);
            leaves("v1 = -1", x, "0 -1 0", "0 0");
            x.setInit(2, 99);
            leaves("v2 is overwritten", x, "0 -1 0", "0 0");
        }
    }

    private static void noOutputs() {
        OffsetAssign x = new OffsetAssign(2, 1);
        x.addStatement(7, 1, 3, 0);
        x.compile();
        leaves("no output", x, "0 3", "");
        leaves("no output, again", x, "0 3", "");
    }

    private static void mostOutputs() {
        OffsetAssign x = new OffsetAssign(16, 4);
        StringBuilder outputs = new StringBuilder();
        StringBuilder values = new StringBuilder();
        for (int v = 0; v < 16; v++) {
            x.setRegister(v, v % 4);
            x.setInit(v, 100 + v);
            values.append(v == 0 ? "" : " ").append(100 + v);
        }
        for (int i = 0; i < 32; i++) {
            x.addStatement(8, 0, i * 11 % 16, 0);
            outputs.append(i == 0 ? "" : " ").append(100 + i * 11 % 16);
        }
        x.compile();
        leaves("32 outputs", x, values.toString(), outputs.toString());
        leaves("32 outputs, again", x, values.toString(), outputs.toString());
    }

    private static void freshStarts() {
        // Each run would go on counting if it began where the last one ended.
        OffsetAssign x = new OffsetAssign(2, 1);
        x.setInit(0, 10);
        x.setInit(1, 1);
        x.addStatement(0, 0, 0, 1);
        x.addStatement(8, 0, 0, 0);
        x.compile();
        for (int time = 0; time < 40; time++) {
            leaves("run " + time, x, "11 1", "11");
        }
    }

    private static void replacesResults() {
        OffsetAssign x = Sample.in("RAN");
        x.setInit(0, 2);
        leaves("after setInit", x, "63 7 9", "9 63");
        x.clear();
        x.addStatement(8, 0, 1, 0);
        x.compile();
        leaves("after another block", x, "2 7 -3", "7");
        check.due("no second output", x.getOutput(0, 1), 0);
        check.due("no second output", x.getOutput(1, 1), 0);
    }

    private static void programsAgree() {
        int number = 1;
        for (int round = 0; round < 120; round++) {
            OffsetAssign x = new OffsetAssign(2 + round % 15, 1 + round % 4);
            for (int v = 0; v < Shown.variables(x); v++) {
                number = (number * 75 + 74) % 65537;
                x.setRegister(v, number % (1 + round % 4));
                x.setInit(v, number * number * number);
            }
            for (int i = 0; i < 32; i++) {
                number = (number * 75 + 74) % 65537;
                int vars = Shown.variables(x);
                x.addStatement(number % 9, number / 9 % vars, number / 144 % vars,
                        number / 2304 % vars);
            }
            x.compile();
            int answer = x.run();
            check.due("count of naive", x.getOutputCount(0), answer);
            check.due("count of optimised", x.getOutputCount(1), answer);
            check.due("outputs", Shown.outputs(x, 1), Shown.outputs(x, 0));
            check.due("values", Shown.values(x, 1), Shown.values(x, 0));
        }
    }

    private static void emptyBlock() {
        OffsetAssign start = new OffsetAssign(2, 1);
        start.compile();
        leaves("at the start", start, "0 0", "");
        // The layout is not the naive one, so that each program has to look in its own cells.
        OffsetAssign cleared = Sample.in("RAN");
        cleared.clear();
        cleared.compile();
        check.due("layout", Shown.addresses(cleared), "2 0 1");
        leaves("cleared", cleared, "5 7 -3", "");
    }

    private static void keepsTheRest() {
        for (String phase : new String[] {"COMPILED", "RAN"}) {
            OffsetAssign x = Sample.in(phase);
            x.run();
            check.due("block", Shown.entered(x), Sample.ENTERED);
            check.due("layout", Shown.addresses(x), Sample.ADDRESSES);
            check.due("naive", Shown.code(x, 0), Sample.NAIVE);
            check.due("optimised", Shown.code(x, 1), Sample.OPTIMISED);
        }
    }

    private static void startsFromInits() {
        for (int any : Sample.ANY_INTS) {
            OffsetAssign x = new OffsetAssign(3, 2);
            x.setRegister(0, 1);
            x.setInit(0, any);
            x.setInit(2, ~any);
            x.addStatement(8, 0, 0, 0);
            x.addStatement(8, 0, 2, 0);
            x.compile();
            leaves("init " + any, x, any + " 0 " + ~any, any + " " + ~any);
        }
    }

    private static void runsNoMore() {
        // The sample's programs had an OUT where these, naive of 8 and optimised of 6, end.
        OffsetAssign x = Sample.in("RAN");
        x.clear();
        x.addStatement(6, 0, 1, 0);
        x.addStatement(6, 0, 1, 0);
        x.compile();
        check.due("naive length", x.getCodeLength(0), 8);
        check.due("optimised length", x.getCodeLength(1), 6);
        leaves("shorter programs", x, "7 7 -3", "");
        // Each of the statements changes what the next one reads.
        OffsetAssign y = new OffsetAssign(2, 1);
        y.addStatement(7, 0, 2, 0);
        y.addStatement(2, 1, 0, 0);
        y.addStatement(0, 0, 1, 0);
        y.addStatement(8, 0, 0, 0);
        y.addStatement(1, 1, 0, 1);
        y.addStatement(8, 0, 1, 0);
        y.compile();
        leaves("in order", y, "6 2", "6 2");
    }

    private static void stepsAfterTheAccess() {
        // Up, down and no step before a read, an operator and a write.
        OffsetAssign x = new OffsetAssign(3, 1);
        x.setInit(0, 1);
        x.setInit(1, 20);
        x.setInit(2, 300);
        x.addStatement(0, 2, 0, 1);   // v2 = 1 + 20
        x.addStatement(1, 0, 2, 1);   // v0 = 21 - 20
        x.addStatement(0, 1, 0, 0);   // v1 = 1 + 1
        x.addStatement(6, 1, 2, 0);   // v1 = 21
        x.addStatement(8, 0, 1, 0);
        check.due("loads", x.compile(), 1);
        leaves("steps", x, "1 21 21", "21");
    }

    private static void additions() {
        gives(0, MAX, 1, MIN);
        gives(0, MIN, -1, MAX);
        gives(0, MIN, MIN, 0);
        gives(0, MAX, MAX, -2);
        gives(0, MAX, MIN, -1);
        gives(0, MAX, 0, MAX);
    }

    private static void subtractions() {
        gives(1, MIN, 1, MAX);
        gives(1, MAX, -1, MIN);
        gives(1, 0, MIN, MIN);
        gives(1, -1, MIN, MAX);
        gives(1, MIN, MIN, 0);
        gives(1, 1, 2, -1);
    }

    private static void multiplications() {
        gives(2, MIN, -1, MIN);
        gives(2, MAX, MAX, 1);
        gives(2, MAX, 2, -2);
        gives(2, MIN, 2, 0);
        gives(2, MIN, MIN, 0);
        gives(2, 65536, 65536, 0);
        gives(2, 65536, 32768, MIN);
        gives(2, 46341, 46341, -2147479015);
        gives(2, 123456789, 987654321, -67153019);
        gives(2, -1, -1, 1);
    }

    private static void ands() {
        gives(3, MIN, -1, MIN);
        gives(3, MIN, MAX, 0);
        gives(3, -1, MAX, MAX);
        gives(3, -2, 3, 2);
    }

    private static void ors() {
        gives(4, MIN, MAX, -1);
        gives(4, MIN, 1, MIN + 1);
        gives(4, 0, MIN, MIN);
        gives(4, 12, 10, 14);
    }

    private static void xors() {
        gives(5, MIN, -1, MAX);
        gives(5, MIN, MAX, -1);
        gives(5, -1, -1, 0);
        gives(5, 12, 10, 6);
    }

    /** Both from initial values and from constants, so from either program's every kind of write. */
    private static void gives(int op, int left, int right, int due) {
        OffsetAssign x = new OffsetAssign(3, 1);
        x.setInit(0, left);
        x.setInit(2, right);
        x.addStatement(op, 1, 0, 2);
        x.addStatement(8, 0, 1, 0);
        x.compile();
        leaves(left + " op " + op + " " + right, x, left + " " + due + " " + right, "" + due);
        OffsetAssign y = new OffsetAssign(2, 2);
        y.setRegister(0, 1);
        y.addStatement(7, 0, left, 0);
        y.addStatement(7, 1, right, 0);
        y.addStatement(op, 0, 0, 1);
        y.addStatement(8, 0, 0, 0);
        y.compile();
        leaves("constant " + left + " op " + op + " " + right, y, due + " " + right, "" + due);
    }

    private static void copiesAndConstants() {
        for (int any : Sample.ANY_INTS) {
            OffsetAssign x = new OffsetAssign(3, 1);
            x.addStatement(7, 2, any, 0);
            x.addStatement(6, 0, 2, 0);
            x.addStatement(8, 0, 0, 0);
            x.compile();
            leaves("of " + any, x, any + " 0 " + any, "" + any);
        }
    }

    private static void wrapsAgain() {
        // Squares of squares of 3: from the fifth on each is greater than an int.
        OffsetAssign x = new OffsetAssign(2, 1);
        x.setInit(0, 3);
        int due = 3;
        StringBuilder outputs = new StringBuilder();
        for (int i = 0; i < 16; i++) {
            x.addStatement(2, 0, 0, 0);
            x.addStatement(8, 0, 0, 0);
            due = (int) ((long) due * due & 0xffffffffL);
            outputs.append(i == 0 ? "" : " ").append(due);
        }
        x.compile();
        leaves("squares", x, due + " 0", outputs.toString());
        OffsetAssign y = new OffsetAssign(2, 1);
        y.setInit(0, MAX);
        y.setInit(1, MAX);
        y.addStatement(0, 0, 0, 1);
        y.addStatement(0, 0, 0, 1);
        y.addStatement(0, 0, 0, 1);
        y.addStatement(8, 0, 0, 0);
        y.compile();
        // 4 * (2^31 - 1) is 2^33 - 4.
        leaves("sums", y, "-4 " + MAX, "-4");
    }

    private static void oneVariable() {
        int[] due = {10, 0, 25, 5, 5, 0, 5};
        for (int op = 0; op <= 6; op++) {
            OffsetAssign x = new OffsetAssign(2, 1);
            x.setInit(1, 5);
            x.addStatement(op, 1, 1, 1);
            x.addStatement(8, 1, 1, 1);
            x.compile();
            leaves("op " + op, x, "0 " + due[op], "" + due[op]);
        }
    }
}
