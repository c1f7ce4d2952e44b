import java.lang.reflect.InvocationTargetException;
import java.lang.reflect.Method;
import java.util.ArrayList;
import java.util.Arrays;
import java.util.List;
import java.util.Map;
import java.util.TreeMap;

/** Every call with every combination of numbers that stand at some edge, answered by the class and by PlainProver alike. */
public final class ExtremeTest {
    private static final int[] NUMBERS = {Integer.MIN_VALUE, Integer.MIN_VALUE + 1, -9, -8, -7, -3, -2, -1, 0, 1, 2, 3,
        4, 5, 7, 8, 9, 15, 16, 17, 23, 24, 25, 79, 80, 81, 99, 100, 101, 158, 159, 160, 161, 199, 200, 201, 254, 255, 256,
        257, 4999, 5000, 5001, Integer.MAX_VALUE - 1, Integer.MAX_VALUE};
    /** A call behind the 512th is free: those of a script, these, and the last looks at status() stay below. */
    private static final int CALLS_OF_ONE = 300;

    private static int wrong = 0;
    private static int calls = 0;

    private final Map<String, Method> realMethods = methodsOf(FrameProver.class);
    private final Map<String, Method> plainMethods = methodsOf(PlainProver.class);
    private final List<Object[]> script;
    private FrameProver real;
    private PlainProver plain;
    private int used;

    private ExtremeTest(List<Object[]> script) throws ReflectiveOperationException {
        this.script = script;
        makeAnew();
    }

    public static void main(String[] args) throws ReflectiveOperationException {
        for (List<Object[]> script : List.of(nothing(), small(false), small(true), full(), listed())) {
            ExtremeTest test = new ExtremeTest(script);
            for (Method method : test.realMethods.values()) {
                test.withAll(method.getName(), method.getParameterTypes(), new ArrayList<>());
                test.makeAnew();
            }
        }
        System.out.println(calls + " calls at the edges, " + wrong + " wrong");
        if (wrong != 0) {
            System.exit(1);
        }
    }

    private static Map<String, Method> methodsOf(Class<?> one) {
        Map<String, Method> methods = new TreeMap<>();
        for (Method method : one.getDeclaredMethods()) {
            boolean isOfTheFace = Arrays.stream(FrameProver.class.getMethods()).anyMatch(of ->
                of.getDeclaringClass() == FrameProver.class && of.getName().equals(method.getName())
                    && Arrays.equals(of.getParameterTypes(), method.getParameterTypes()));
            if (isOfTheFace) {
                methods.put(method.getName(), method);
            }
        }
        return methods;
    }

    private void withAll(String name, Class<?>[] types, List<Object> told) throws ReflectiveOperationException {
        if (told.size() == types.length) {
            if (used > CALLS_OF_ONE) {
                makeAnew();
            }
            both(name, told.toArray());
            return;
        }
        List<Object> choices = new ArrayList<>();
        if (types[told.size()] == boolean.class) {
            choices.addAll(List.of(false, true));
        } else {
            Arrays.stream(NUMBERS).forEach(choices::add);
        }
        for (Object choice : choices) {
            told.add(choice);
            withAll(name, types, told);
            told.remove(told.size() - 1);
        }
    }

    private void makeAnew() throws ReflectiveOperationException {
        for (int by = -8; real != null && by <= -2; by++) {
            both("status", by);
        }
        real = new FrameProver();
        plain = new PlainProver();
        used = 0;
        for (Object[] row : script) {
            both((String) row[0], Arrays.copyOfRange(row, 1, row.length));
        }
        used = 0;
    }

    private void both(String name, Object... arguments) throws ReflectiveOperationException {
        calls++;
        used++;
        Object due = plainMethods.get(name).invoke(plain, arguments);
        Object got;
        try {
            got = realMethods.get(name).invoke(real, arguments);
        } catch (InvocationTargetException thrown) {
            got = thrown.getCause();
        }
        if (!due.equals(got) && wrong++ < 20) {
            System.out.println(name + Arrays.toString(arguments) + " answered " + got + ", due is " + due);
        }
    }

    // ---- the scripts

    private static Object[] row(Object... call) {
        return call;
    }

    private static List<Object[]> nothing() {
        return List.of();
    }

    /** 0 leads to 1, that to 3, which is bad; with something of all that an object may hold. */
    private static List<Object[]> small(boolean ended) {
        return List.of(row("bit", false, false), row("bit", false, false), row("input"), row("bit", true, true),
            row("gate", 0, 2), row("next", 0, 3), row("next", 1, 0), row("bad", 8), row("fair", 1),
            row("prove", ended ? 5000 : 3), row("list", 3, 1), row("list", 2, 2), row("judge"), row("step", 0), row("lay", 5, 1));
    }

    /** 80 parts, 8 bits, 4 inputs, 4 assumptions, 3 fair ones; it moves on by one bit, and input 0 comes in. */
    private static List<Object[]> full() {
        List<Object[]> script = new ArrayList<>();
        for (int i = 0; i < 8; i++) {
            script.add(row("bit", i == 5, i == 5));
        }
        for (int i = 0; i < 4; i++) {
            script.add(row("input"));
        }
        for (int i = 12; i < 80; i++) {
            script.add(row("gate", i % 24, 10));
        }
        for (int i = 0; i < 8; i++) {
            script.add(row("next", i, i == 0 ? 16 : 2 * i - 2));
        }
        for (int i = 0; i < 4; i++) {
            script.add(row("assume", 10));
            script.add(row("fair", i == 1 ? 0 : 10));
        }
        script.add(row("bad", 8));
        script.add(row("prove", 9));
        script.add(row("lay", 255, 15));
        return script;
    }

    /** A wall, and a list of 100. */
    private static List<Object[]> listed() {
        List<Object[]> script = new ArrayList<>();
        for (int i = 0; i < 3; i++) {
            script.add(row("bit", false, false));
        }
        script.add(row("gate", 0, 2));
        script.add(row("bad", 4));
        script.add(row("prove", 5000));
        for (int i = 0; i < 100; i++) {
            script.add(row("list", 4, 4));
        }
        script.add(row("judge"));
        script.add(row("lay", 7, 0));
        return script;
    }
}
