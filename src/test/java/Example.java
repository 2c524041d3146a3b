/** The example of README.md; what it prints is checked by ExampleTest. */
public final class Example {
    public static void main(String[] args) {
        OffsetAssign x = new OffsetAssign(4, 2);            // variables 0..3, registers 0 and 1
        x.setRegister(3, 1);                                // variable 3 is given to register 1
        x.setInit(0, 5);
        x.setInit(2, 7);
        x.addStatement(OffsetAssign.OP_ADD, 1, 0, 2);       // v1 = v0 + v2
        x.addStatement(OffsetAssign.OP_CONST, 3, 10, 0);    // v3 = 10
        x.addStatement(OffsetAssign.OP_MUL, 1, 1, 3);       // v1 = v1 * v3
        x.addStatement(OffsetAssign.OP_OUT, 0, 1, 0);       // output v1

        System.out.println("loads " + x.compile());
        System.out.println("naive loads " + x.getAddrLoads(OffsetAssign.NAIVE));
        for (int v = 0; v < 4; v++) {
            System.out.println("variable " + v + " at " + x.getAddress(v));
        }
        for (int i = 0; i < x.getCodeLength(OffsetAssign.OPTIMISED); i++) {
            int opcode = x.getInstr(OffsetAssign.OPTIMISED, i, 0);
            int register = x.getInstr(OffsetAssign.OPTIMISED, i, 1);
            int operand = x.getInstr(OffsetAssign.OPTIMISED, i, 2);
            System.out.println("instruction " + opcode + " " + register + " " + operand);
        }
        System.out.println("outputs " + x.run());
        System.out.println("output " + x.getOutput(OffsetAssign.OPTIMISED, 0));
        System.out.println("v1 = " + x.getVar(OffsetAssign.OPTIMISED, 1));
    }
}
