import java.lang.reflect.InvocationTargetException;
import java.lang.reflect.Method;
import java.lang.reflect.Modifier;
import java.util.ArrayList;
import java.util.Arrays;
import java.util.Comparator;
import java.util.LinkedHashMap;
import java.util.List;
import java.util.Map;

/** What the tests of single sentences share; each test is a method of a class below, named p<promise>_.. or t<term>_.. */
abstract class Edges {
    static final int NONE = -1, MISSING = -2, BEYOND = -3, BELOW = -4, KIND = -5, COPY = -6, NO = -7, FULL = -8;
    static final int TOP = Integer.MAX_VALUE;
    static final int LOW = Integer.MIN_VALUE;

    interface Recipe {
        FrameProver make();
    }

    interface Call {
        int on(FrameProver x);
    }

    interface Look {
        void at(FrameProver x, List<Integer> seen);
    }

    static int tests = 0;
    static int checks = 0;
    static int wrong = 0;
    private static String test = "";

    /** Runs each test of a class. */
    static void run(Class<?> group) throws IllegalAccessException, InvocationTargetException {
        for (Method method : testsOf(group)) {
            test = method.getName();
            int before = checks;
            method.invoke(null);
            tests++;
            if (checks == before) {
                fault("nothing is looked at");
            }
        }
    }

    static List<Method> testsOf(Class<?> group) {
        List<Method> found = new ArrayList<>();
        for (Method method : group.getDeclaredMethods()) {
            if (Modifier.isStatic(method.getModifiers()) && method.getName().matches("[pt]\\d+_.*")) {
                found.add(method);
            }
        }
        found.sort(Comparator.comparing(Method::getName));
        return found;
    }

    private static void fault(String text) {
        wrong++;
        System.out.println(test + ": " + text);
    }

    static void due(String call, int got, int want) {
        checks++;
        if (got != want) {
            fault(call + " answered " + got + ", due is " + want);
        }
    }

    /** The call is refused so; status() counts it, and nothing else is another than without it. */
    static void refused(int by, Recipe recipe, Call call) {
        FrameProver counted = recipe.make();
        FrameProver twin = recipe.make();
        due("the call", call.on(counted), by);
        for (int refusal = -8; refusal <= -2; refusal++) {
            due("status(" + refusal + ")", counted.status(refusal), twin.status(refusal) + (refusal == by ? 1 : 0));
        }
        unchanged(recipe, call);
    }

    /** All looks see the same with the call and without it. */
    static void unchanged(Recipe recipe, Call call) {
        for (Map.Entry<String, Look> look : LOOKS.entrySet()) {
            same(look.getKey(), recipe, call, look.getValue());
        }
    }

    /** One look sees the same with the call and without it; a look has objects of its own, for it has up to 400 calls. */
    private static void same(String name, Recipe recipe, Call call, Look look) {
        FrameProver called = recipe.make();
        FrameProver twin = recipe.make();
        call.on(called);
        List<Integer> seen = new ArrayList<>();
        List<Integer> want = new ArrayList<>();
        look.at(called, seen);
        look.at(twin, want);
        checks++;
        if (!seen.equals(want)) {
            fault(name + " became " + seen + ", due is " + want);
        }
    }

    private static final Map<String, Look> LOOKS = new LinkedHashMap<>();

    static {
        LOOKS.put("the parts", Edges::parts);
        LOOKS.put("the steps", Edges::steps);
        LOOKS.put("the proof", Edges::proof);
        LOOKS.put("the list", Edges::list);
        LOOKS.put("the run and the row", Edges::runAndRow);
        LOOKS.put("what comes of it", Edges::whatComes);
    }

    private static void parts(FrameProver x, List<Integer> seen) {
        for (int what = 0; what <= 5; what++) {
            seen.add(x.count(what));
        }
        for (int part = 0; part < x.count(0); part++) {
            seen.addAll(Arrays.asList(x.part(part, 0), x.part(part, 1), x.part(part, 2)));
        }
        seen.add(x.bad(NONE));
    }

    private static void steps(FrameProver x, List<Integer> seen) {
        int states = 1 << x.count(1);
        int choicesInAll = 1 << x.count(2);
        int told = Math.min(states * choicesInAll, 60);
        for (int i = 0; i < told; i++) {
            int place = i * states * choicesInAll / told;
            for (int what = 0; what <= 2; what++) {
                seen.add(x.at(place % states, place / states, what));
            }
        }
    }

    private static void proof(FrameProver x, List<Integer> seen) {
        seen.addAll(Arrays.asList(x.frames(), x.count(6), x.way()));
        for (int k = 1; k <= 24; k++) {
            seen.add(x.clauses(k));
        }
        for (int k = 1; k <= 4; k++) {
            for (int i : new int[] {0, 1, 2, x.clauses(k) - 1}) {
                seen.addAll(Arrays.asList(x.clause(k, i, false), x.clause(k, i, true)));
            }
        }
        for (int i = 0; i < 24; i++) {
            seen.addAll(Arrays.asList(x.trouble(i, 0), x.trouble(i, 1), x.wayState(i), x.wayChoice(i)));
        }
        seen.addAll(Arrays.asList(x.take(), x.count(7), x.listed(0, false), x.listed(0, true)));
    }

    private static void list(FrameProver x, List<Integer> seen) {
        seen.addAll(Arrays.asList(x.count(7), x.fails(0), x.fails(1)));
        for (int i = 0; i < x.count(7); i++) {
            seen.addAll(Arrays.asList(x.listed(i, false), x.listed(i, true)));
        }
        seen.addAll(Arrays.asList(x.judge(), x.fails(0), x.fails(1), x.small()));
    }

    private static void runAndRow(FrameProver x, List<Integer> seen) {
        for (int sign = 0; sign < 2 * x.count(0); sign++) {
            seen.add(x.value(sign, 0));
        }
        for (int i = 0; i <= 80; i++) {
            seen.add(x.row(i));
        }
        seen.addAll(Arrays.asList(x.tear(), x.step(0), x.start()));
    }

    private static void whatComes(FrameProver x, List<Integer> seen) {
        seen.addAll(Arrays.asList(x.keeps(1), x.ask(1, 0, 0), x.prove(1), x.frames(), x.count(6), x.trouble(0, 0)));
        seen.addAll(Arrays.asList(x.prove(5000), x.frames(), x.count(6), x.keeps(1), x.cone(), x.live()));
        seen.addAll(Arrays.asList(x.shortest(), x.within(2), x.take(), x.judge()));
    }
}
