import java.io.ByteArrayOutputStream;
import java.io.PrintStream;
import java.util.List;

/** The example of README.md prints what README.md says, worked out by hand. */
public final class ExampleTest {
    private static final List<String> DUE = List.of(
        "loads 2",
        "naive loads 8",
        "variable 0 at 0",
        "variable 1 at 2",
        "variable 2 at 1",
        "variable 3 at 3",
        "instruction 0 0 0",
        "instruction 1 0 1",
        "instruction 2 0 1",
        "instruction 8 0 0",
        "instruction 9 0 10",
        "instruction 0 1 3",
        "instruction 8 1 0",
        "instruction 1 0 0",
        "instruction 4 1 0",
        "instruction 8 0 0",
        "instruction 1 0 0",
        "instruction 10 0 0",
        "outputs 1",
        "output 120",
        "v1 = 120");

    public static void main(String[] args) {
        Check check = new Check();
        List<String> printed = printed();
        check.due("number of lines", printed.size(), DUE.size());
        for (int i = 0; i < printed.size() && i < DUE.size(); i++) {
            check.due("line " + (i + 1), printed.get(i), DUE.get(i));
        }
        check.end();
    }

    private static List<String> printed() {
        PrintStream before = System.out;
        ByteArrayOutputStream caught = new ByteArrayOutputStream();
        System.setOut(new PrintStream(caught));
        Example.main(new String[0]);
        System.out.flush();
        System.setOut(before);
        return caught.toString().lines().toList();
    }
}
