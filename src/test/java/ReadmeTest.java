import java.io.ByteArrayOutputStream;
import java.io.IOException;
import java.io.PrintStream;
import java.io.PrintWriter;
import java.lang.reflect.Field;
import java.net.URL;
import java.net.URLClassLoader;
import java.nio.file.Files;
import java.nio.file.Path;
import java.util.ArrayList;
import java.util.Comparator;
import java.util.List;
import java.util.Set;
import java.util.TreeSet;
import java.util.regex.Matcher;
import java.util.regex.Pattern;
import java.util.spi.ToolProvider;
import java.util.stream.Stream;

/** What README.md says is so: its program, its refusals, and the names of classes and tests. */
public final class ReadmeTest {
    private static final Path TESTS = Path.of("src/test/java");
    private static final Path MAIN = Path.of("src/main/java/FrameProver.java");

    private static int checks = 0;
    private static int wrong = 0;

    public static void main(String[] args) throws IOException, ReflectiveOperationException {
        String readme = Files.readString(Path.of("README.md"));
        program(readme);
        refusals(readme);
        insideClasses(readme);
        tests(readme);
        paths(readme);
        System.out.println(checks + " sayings of README.md, " + wrong + " wrong");
        if (wrong != 0) {
            System.exit(1);
        }
    }

    private static void must(boolean holds, String text) {
        checks++;
        if (!holds) {
            wrong++;
            System.out.println("README.md: " + text);
        }
    }

    private static List<String> pieces(String readme, String kind) {
        List<String> found = new ArrayList<>();
        Matcher matcher = Pattern.compile("(?ms)^```" + kind + "\\n(.*?)^```$").matcher(readme);
        while (matcher.find()) {
            found.add(matcher.group(1));
        }
        return found;
    }

    /** Each piece of Java is followed by what it prints; a mark is printed between them. */
    private static void program(String readme) throws IOException, ReflectiveOperationException {
        List<String> code = pieces(readme, "java");
        List<String> due = pieces(readme, "text");
        must(code.size() == due.size() && code.size() > 4, code.size() + " pieces, " + due.size() + " of what they print");
        String mark = "----\n";
        String body = String.join("System.out.println(\"----\");\n", code);
        String[] printed = run("public final class Example {\npublic static void main(String[] args) {\n" + body + "}\n}\n")
            .split(mark, -1);
        must(printed.length == due.size(), printed.length + " pieces print");
        for (int i = 0; i < printed.length && i < due.size(); i++) {
            must(printed[i].equals(due.get(i)), "piece " + i + " prints\n" + printed[i] + "due is\n" + due.get(i));
        }
    }

    private static String run(String source) throws IOException, ReflectiveOperationException {
        Path folder = Files.createTempDirectory("readme");
        PrintStream before = System.out;
        try {
            Path file = Files.writeString(folder.resolve("Example.java"), source);
            int end = ToolProvider.findFirst("javac").orElseThrow().run(new PrintWriter(before, true),
                new PrintWriter(before, true), "-d", folder.toString(), MAIN.toString(), file.toString());
            must(end == 0, "its program is not compiled");
            if (end != 0) {
                return "";
            }
            ByteArrayOutputStream printed = new ByteArrayOutputStream();
            try (URLClassLoader loader = new URLClassLoader(new URL[] {folder.toUri().toURL()}, null)) {
                System.setOut(new PrintStream(printed, true));
                loader.loadClass("Example").getMethod("main", String[].class).invoke(null, (Object) new String[0]);
            } finally {
                System.setOut(before);
            }
            return printed.toString().replace(System.lineSeparator(), "\n");
        } finally {
            remove(folder);
        }
    }

    private static void remove(Path folder) throws IOException {
        List<Path> inside;
        try (Stream<Path> all = Files.walk(folder)) {
            inside = all.sorted(Comparator.reverseOrder()).toList();
        }
        for (Path path : inside) {
            Files.delete(path);
        }
    }

    private static void refusals(String readme) throws ReflectiveOperationException {
        Set<String> told = new TreeSet<>();
        Matcher rows = Pattern.compile("(?m)^\\| `(\\w+)` *\\| (-\\d+) *\\|").matcher(readme);
        while (rows.find()) {
            told.add(rows.group(1) + " " + rows.group(2));
        }
        Set<String> due = new TreeSet<>();
        for (Field field : FrameProver.class.getFields()) {
            if (field.getInt(null) != FrameProver.NONE) {
                due.add(field.getName() + " " + field.getInt(null));
            }
        }
        must(told.equals(due), "refusals " + told + ", due are " + due);
    }

    private static void insideClasses(String readme) {
        for (Class<?> one : FrameProver.class.getDeclaredClasses()) {
            must(readme.contains("`" + one.getSimpleName() + "`"), "nothing of the class " + one.getSimpleName());
        }
    }

    /** Every file of the tests is told, and every test that is told is a file. */
    private static void tests(String readme) throws IOException {
        try (Stream<Path> files = Files.list(TESTS)) {
            for (Path file : files.toList()) {
                String name = file.getFileName().toString().replace(".java", "");
                must(readme.contains("`" + name + "`"), "nothing of the test " + name);
            }
        }
        Matcher names = Pattern.compile("`(\\w+(?:Test|Edges)|PlainProver|Machines)`").matcher(readme);
        while (names.find()) {
            must(Files.exists(TESTS.resolve(names.group(1) + ".java")), "no test " + names.group(1));
        }
        Matcher edges = Pattern.compile("`([pt]\\d+_\\w+)`").matcher(readme);
        while (edges.find()) {
            must(hasMethod(edges.group(1)), "no test " + edges.group(1));
        }
    }

    private static boolean hasMethod(String name) throws IOException {
        try (Stream<Path> files = Files.list(TESTS)) {
            for (Path file : files.toList()) {
                if (Files.readString(file).contains("void " + name + "(")) {
                    return true;
                }
            }
        }
        return false;
    }

    private static void paths(String readme) {
        for (String path : List.of("src/main/java/FrameProver.java", "../shared/DOC.md", "../shared/LANGUAGE.md",
            "../shared/tests", ".ci/run")) {
            must(readme.contains(path), "nothing of " + path);
            must(Files.exists(Path.of(path)), "no " + path);
        }
        must(Files.isExecutable(Path.of(".ci/run")), ".ci/run is not executable");
    }
}
