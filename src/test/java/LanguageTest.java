import java.io.IOException;
import java.io.PrintWriter;
import java.io.StringWriter;
import java.lang.reflect.Constructor;
import java.lang.reflect.Field;
import java.lang.reflect.Method;
import java.lang.reflect.Modifier;
import java.nio.file.Files;
import java.nio.file.Path;
import java.util.ArrayList;
import java.util.Arrays;
import java.util.List;
import java.util.Map;
import java.util.Set;
import java.util.TreeMap;
import java.util.TreeSet;
import java.util.regex.Matcher;
import java.util.regex.Pattern;
import java.util.spi.ToolProvider;

/** The face of the document and those rules of LANGUAGE.md that a program can look at. */
public final class LanguageTest {
    private static final String FACE = "int ask(int, int, int);int assume(int);int at(int, int, int);int bad(int);"
        + "int bit(boolean, boolean);int clause(int, int, boolean);int clauses(int);int clear();int cone();"
        + "int copy(int, int, int);int count(int);int fails(int);int fair(int);int forge(int, int, boolean);"
        + "int frames();int gate(int, int);int input();int judge();int keeps(int);int lay(int, int);"
        + "int list(int, int);int listed(int, boolean);int live();int next(int, int);int part(int, int);"
        + "int prove(int);int row(int);int shortest();int small();int start();int status(int);int step(int);"
        + "int take();int tear();int trouble(int, int);int value(int, int);int way();int wayChoice(int);"
        + "int wayState(int);int widen(int, int, int);int within(int)";
    private static final String CONSTANTS = "BELOW BEYOND COPY FULL KIND MISSING NO NONE";
    private static final List<String> FORBIDDEN_WORDS = List.of("throw", "throws", "try", "catch", "synchronized",
        "assert", "import", "package", "instanceof", "equals", "hashCode", "toString", "Exception", "Object",
        "protected", "volatile", "native", "var");
    private static final int MOST_LINES = 60;
    private static final int MOST_FIELDS = 20;
    private static final int MOST_CLASSES = 12;
    private static final int MOST_PARAMETERS = 7;
    private static final int MOST_DEEP = 8;

    private static int wrong = 0;

    public static void main(String[] args) throws IOException {
        String source = Files.readString(Path.of("src/main/java/FrameProver.java"));
        String code = withoutComments(source);
        face();
        members(FrameProver.class);
        insideClasses();
        words(code);
        lengths(source);
        depths();
        System.out.println(wrong == 0 ? "the rules hold" : wrong + " faults");
        if (wrong != 0) {
            System.exit(1);
        }
    }

    private static void fault(String text) {
        wrong++;
        System.out.println(text);
    }

    private static void must(boolean holds, String text) {
        if (!holds) {
            fault(text);
        }
    }

    private static boolean isPrivate(int modifiers) {
        return Modifier.isPrivate(modifiers);
    }

    private static void face() {
        must(Modifier.isFinal(FrameProver.class.getModifiers()), "the class is not final");
        Set<String> methods = new TreeSet<>();
        for (Method method : FrameProver.class.getDeclaredMethods()) {
            if (isPrivate(method.getModifiers()) || method.isSynthetic()) {
                continue;
            }
            must(Modifier.isPublic(method.getModifiers()), "not public, not private: " + method);
            must(!Modifier.isStatic(method.getModifiers()), "static: " + method);
            List<String> types = Arrays.stream(method.getParameterTypes()).map(Class::getName).toList();
            methods.add(method.getReturnType().getName() + " " + method.getName() + "(" + String.join(", ", types) + ")");
        }
        Set<String> due = new TreeSet<>(List.of(FACE.split(";")));
        must(methods.equals(due), "the methods are " + methods + ", due are " + due);
        Constructor<?>[] constructors = FrameProver.class.getDeclaredConstructors();
        must(constructors.length == 1 && constructors[0].getParameterCount() == 0
            && Modifier.isPublic(constructors[0].getModifiers()), "the constructor");
        Set<String> constants = new TreeSet<>();
        for (Field field : FrameProver.class.getDeclaredFields()) {
            if (!isPrivate(field.getModifiers())) {
                constants.add(field.getName());
                must(field.getModifiers() == (Modifier.PUBLIC | Modifier.STATIC | Modifier.FINAL), "" + field);
            }
        }
        must(String.join(" ", constants).equals(CONSTANTS), "the constants are " + constants);
    }

    private static void insideClasses() {
        Class<?>[] inside = FrameProver.class.getDeclaredClasses();
        must(inside.length + 1 <= MOST_CLASSES, "classes: " + inside.length);
        Set<String> publicNames = new TreeSet<>();
        for (Method method : FrameProver.class.getDeclaredMethods()) {
            if (Modifier.isPublic(method.getModifiers())) {
                publicNames.add(method.getName());
            }
        }
        for (Class<?> one : inside) {
            int modifiers = one.getModifiers();
            must(Modifier.isStatic(modifiers), "not static: " + one);
            must(!Modifier.isPublic(modifiers) && !Modifier.isProtected(modifiers), "to be seen: " + one);
            must(one.getDeclaredClasses().length == 0, "a class inside: " + one);
            members(one);
            for (Method method : one.getDeclaredMethods()) {
                must(!publicNames.contains(method.getName()), "a name of the face: " + method);
            }
        }
    }

    private static void members(Class<?> one) {
        int fields = 0;
        for (Field field : one.getDeclaredFields()) {
            boolean isStatic = Modifier.isStatic(field.getModifiers());
            must(!isStatic || Modifier.isFinal(field.getModifiers()), "static, not final: " + field);
            fields += isStatic ? 0 : 1;
        }
        must(fields <= MOST_FIELDS, "fields of " + one + ": " + fields);
        for (Method method : one.getDeclaredMethods()) {
            must(method.getParameterCount() <= MOST_PARAMETERS, "parameters of " + method);
            must(!isPrivate(method.getModifiers()) || one != FrameProver.class || !FACE.contains(" " + method.getName() + "("),
                "a private method with a name of the face: " + method);
        }
    }

    private static String withoutComments(String source) {
        return source.replaceAll("(?s)/\\*.*?\\*/", "").replaceAll("//[^\n]*", "");
    }

    private static void words(String code) {
        for (String word : FORBIDDEN_WORDS) {
            must(!Pattern.compile("\\b" + word + "\\b").matcher(code).find(), "the word " + word);
        }
        must(!code.contains("->") && !code.contains("::"), "a lambda or a method reference");
        must(!code.contains("\""), "a text");
        must(!Pattern.compile("\\bwhile\\b").matcher(code).find(), "a loop whose end is not in its own lines");
        must(code.chars().allMatch(sign -> sign < 128), "a sign above 127");
        for (String called : List.of("System", "Math", "Long", "Integer")) {
            Matcher calls = Pattern.compile("\\b" + called + "\\.(\\w+)").matcher(code);
            while (calls.find()) {
                must(Set.of("arraycopy", "max", "min", "bitCount").contains(calls.group(1)), calls.group());
            }
        }
        // What is made is made in constructors and where fields begin, so that no call makes anything.
        for (List<String> method : methods(code)) {
            boolean constructs = method.get(0).matches("    (public |    )[A-Z]\\w*\\(.*");
            must(constructs || String.join("\n", method).indexOf("new ") < 0, "made in a call: " + method.get(0));
        }
    }

    private static void lengths(String source) {
        for (List<String> method : methods(source)) {
            must(method.size() <= MOST_LINES, "long: " + method.get(0));
        }
    }

    /** How deep calls go, by the calls that javap tells of the compiled classes. */
    private static void depths() {
        List<String> arguments = new ArrayList<>(List.of("-p", "-c", "-cp", System.getProperty("java.class.path")));
        arguments.add("FrameProver");
        for (Class<?> one : FrameProver.class.getDeclaredClasses()) {
            arguments.add(one.getName());
        }
        StringWriter told = new StringWriter();
        int end = ToolProvider.findFirst("javap").orElseThrow()
            .run(new PrintWriter(told), new PrintWriter(System.err), arguments.toArray(new String[0]));
        must(end == 0, "javap ends with " + end);
        Map<String, Set<String>> calls = callsOf(told.toString());
        must(calls.size() > 100, "javap tells only " + calls.size() + " methods");
        for (String method : calls.keySet()) {
            depth(method, calls, new ArrayList<>());
        }
    }

    private static Map<String, Set<String>> callsOf(String told) {
        Pattern head = Pattern.compile("^(?:\\w+ )*class ([\\w$]+) .*");
        Pattern method = Pattern.compile("^  [\\w$\\[\\]. ]*?([\\w$]+)\\(.*\\);$");
        Pattern call = Pattern.compile("invoke\\w+ .*// Method (?:(FrameProver[\\w$]*)\\.)?\"?([\\w<>]+)\"?:\\(.*");
        Map<String, Set<String>> calls = new TreeMap<>();
        String type = "";
        String open = "";
        for (String line : told.split("\n")) {
            Matcher matcher = head.matcher(line);
            if (matcher.matches()) {
                type = matcher.group(1);
                continue;
            }
            matcher = method.matcher(line);
            if (matcher.matches()) {
                open = type + "." + (matcher.group(1).equals(type) ? "<init>" : matcher.group(1));
                calls.putIfAbsent(open, new TreeSet<>());
                continue;
            }
            matcher = call.matcher(line);
            if (matcher.find() && !line.contains("java/lang")) {
                calls.get(open).add((matcher.group(1) == null ? type : matcher.group(1)) + "." + matcher.group(2));
            }
        }
        return calls;
    }

    private static void depth(String method, Map<String, Set<String>> calls, List<String> above) {
        if (above.contains(method)) {
            fault("it calls itself: " + above + " " + method);
            return;
        }
        List<String> chain = new ArrayList<>(above);
        chain.add(method);
        must(chain.size() <= MOST_DEEP, "too deep: " + chain);
        for (String called : calls.getOrDefault(method, Set.of())) {
            depth(called, calls, chain);
        }
    }

    /** Each method's lines, from its head to the brace of the same depth. */
    private static List<List<String>> methods(String source) {
        List<List<String>> found = new ArrayList<>();
        List<String> open = null;
        String end = "";
        for (String line : source.split("\n")) {
            boolean isHead = line.matches("(    |        )[A-Za-z].*\\(.*\\) \\{");
            if (open == null && isHead) {
                open = new ArrayList<>();
                end = line.replaceAll("\\S.*", "") + "}";
            }
            if (open != null) {
                open.add(line);
                if (line.equals(end)) {
                    found.add(open);
                    open = null;
                }
            }
        }
        must(found.size() > 100, "only " + found.size() + " methods are found");
        return found;
    }
}
