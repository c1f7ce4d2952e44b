import java.lang.reflect.InvocationTargetException;
import java.lang.reflect.Method;
import java.util.List;
import java.util.Set;
import java.util.TreeSet;

/** A test of its own for each sentence of the document that names a boundary case. */
public final class EdgeTest {
    private static final List<Class<?>> GROUPS = List.of(TermEdges.class, MachineEdges.class, RunEdges.class,
        ProofEdges.class, QuestionEdges.class, ListEdges.class, RowEdges.class);
    private static final int PROMISES = 42;
    private static final int TERMS = 4;

    public static void main(String[] args) throws IllegalAccessException, InvocationTargetException {
        Set<String> tested = new TreeSet<>();
        for (Class<?> group : GROUPS) {
            Edges.run(group);
            for (Method method : Edges.testsOf(group)) {
                tested.add(method.getName().replaceAll("_.*", ""));
            }
        }
        for (int promise = 1; promise <= PROMISES; promise++) {
            mustHave(tested, "p" + promise);
        }
        for (int term = 1; term <= TERMS; term++) {
            mustHave(tested, "t" + term);
        }
        System.out.println(Edges.tests + " edges, " + Edges.checks + " checks, " + Edges.wrong + " wrong");
        if (Edges.wrong != 0) {
            System.exit(1);
        }
    }

    private static void mustHave(Set<String> tested, String name) {
        if (!tested.contains(name)) {
            Edges.wrong++;
            System.out.println(name + " has no test");
        }
    }
}
