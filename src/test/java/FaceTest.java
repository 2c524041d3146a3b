import java.lang.reflect.Constructor;
import java.lang.reflect.Field;
import java.lang.reflect.Method;
import java.lang.reflect.Modifier;
import java.util.Map;
import java.util.Set;
import java.util.TreeMap;
import java.util.TreeSet;

/** The class shows the document's constants, constructor and methods, and nothing else. */
public final class FaceTest {
    private static final Check check = new Check();

    private static final String[] CONSTANTS = {
        "OP_ADD=0", "OP_SUB=1", "OP_MUL=2", "OP_AND=3", "OP_OR=4", "OP_XOR=5", "OP_COPY=6",
        "OP_CONST=7", "OP_OUT=8", "I_LDAR=0", "I_LOAD=1", "I_ADD=2", "I_SUB=3", "I_MUL=4",
        "I_AND=5", "I_OR=6", "I_XOR=7", "I_STORE=8", "I_LDI=9", "I_OUT=10", "ERR_FULL=-1",
        "ERR_OP=-2", "ERR_VAR=-3", "NAIVE=0", "OPTIMISED=1", "MAX_STATEMENTS=32", "MAX_CODE=192",
        "NONE=-2147483648"
    };

    private static final String[] METHODS = {
        "void clear 0", "int addStatement 4", "boolean setRegister 2", "boolean setInit 2",
        "int compile 0", "int run 0", "int getStatement 2", "int getVariable 2", "int getWeight 2",
        "int getAddress 1", "int getCodeLength 1", "int getAddrLoads 1", "int getInstr 3",
        "int getVar 2", "int getOutputCount 1", "int getOutput 2"
    };

    public static void main(String[] args) throws ReflectiveOperationException {
        constants();
        methods();
        constructor();
        check.due("public final class", OffsetAssign.class.getModifiers(),
                Modifier.PUBLIC | Modifier.FINAL);
        check.end();
    }

    private static void constants() throws ReflectiveOperationException {
        Map<String, Integer> due = new TreeMap<>();
        for (String constant : CONSTANTS) {
            int at = constant.indexOf('=');
            due.put(constant.substring(0, at), Integer.parseInt(constant.substring(at + 1)));
        }
        Map<String, Integer> got = new TreeMap<>();
        for (Field field : OffsetAssign.class.getDeclaredFields()) {
            if (Modifier.isPrivate(field.getModifiers())) {
                continue;
            }
            int modifiers = Modifier.PUBLIC | Modifier.STATIC | Modifier.FINAL;
            check.due("modifiers of " + field.getName(), field.getModifiers(), modifiers);
            got.put(field.getName(), field.getInt(null));
        }
        if (!got.equals(due)) {
            check.fault("the constants are " + got + ", due are " + due);
        }
    }

    private static void methods() {
        Set<String> due = new TreeSet<>(Set.of(METHODS));
        Set<String> got = new TreeSet<>();
        for (Method method : OffsetAssign.class.getDeclaredMethods()) {
            if (Modifier.isPrivate(method.getModifiers())) {
                continue;
            }
            String name = method.getName();
            check.due("modifiers of " + name, method.getModifiers(), Modifier.PUBLIC);
            onlyInts(name, method.getParameterTypes());
            got.add(method.getReturnType() + " " + name + " " + method.getParameterCount());
        }
        if (!got.equals(due)) {
            check.fault("the methods are " + got + ", due are " + due);
        }
    }

    private static void constructor() {
        Constructor<?>[] all = OffsetAssign.class.getDeclaredConstructors();
        check.due("number of constructors", all.length, 1);
        check.due("modifiers of the constructor", all[0].getModifiers(), Modifier.PUBLIC);
        check.due("parameters of the constructor", all[0].getParameterCount(), 2);
        onlyInts("the constructor", all[0].getParameterTypes());
    }

    private static void onlyInts(String name, Class<?>[] types) {
        for (Class<?> type : types) {
            check.due("int parameters of " + name, type == int.class, true);
        }
    }
}
