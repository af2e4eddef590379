import java.io.IOException;
import java.lang.reflect.Method;
import java.lang.reflect.Modifier;
import java.nio.file.Files;
import java.nio.file.Path;
import java.util.List;
import java.util.Set;
import java.util.TreeSet;
import java.util.regex.Matcher;
import java.util.regex.Pattern;
import java.util.stream.Stream;
import javax.tools.JavaCompiler;
import javax.tools.ToolProvider;

/**
 * What README.md shows: its Java is made a class, compiled and run, and each call must answer what stands behind it;
 * its tables name all calls and all answers, and it names all tests.
 */
public final class ReadmeTest {
    private static final Path README = Path.of("README.md");
    private static final Path OUT = Path.of("build/readme");
    private static final Pattern CALL = Pattern.compile("((?:x\\.\\w+|put)\\(.*\\)); +// (-?\\d+|[A-Z]+)\\b.*");

    private static int wrong = 0;
    private static int shown = 0;
    private static final Set<String> shownCalls = new TreeSet<>();

    private static void check(boolean right, String what) {
        if (!right) {
            wrong++;
            System.out.println("ReadmeTest: " + what);
        }
    }

    /** Called by what is made of README.md. */
    public static void due(int line, String call, int got, int want) {
        check(got == want, "line " + line + ": " + call + " answered " + got + ", README.md says " + want);
    }

    public static void main(String[] args) throws Exception {
        List<String> lines = Files.readAllLines(README);
        runShown(lines);
        String text = String.join("\n", lines);
        calls(text);
        answers(text);
        tests(text);
        check(text.contains("An object is good for 512 calls"), "it does not say for how many calls an object may be used");
        System.out.println(wrong == 0 ? "ReadmeTest: all " + shown + " calls shown answer as it says" : "ReadmeTest: " + wrong + " wrong");
        if (wrong != 0) System.exit(1);
    }

    // ---- what is shown

    private static void runShown(List<String> lines) throws Exception {
        StringBuilder members = new StringBuilder();
        StringBuilder main = new StringBuilder();
        int blocks = 0;
        int n = 0;
        while (n < lines.size()) {
            if (!lines.get(n++).equals("```java")) continue;
            int start = n;
            while (n < lines.size() && !lines.get(n).equals("```")) n++;
            List<String> block = lines.subList(start, n);
            if (block.get(0).startsWith("static ")) {
                members.append(String.join("\n", block)).append('\n');
            } else {
                members.append("static void block").append(blocks).append("() {\n").append(made(block, start)).append("}\n");
                main.append("block").append(blocks++).append("();\n");
            }
        }
        check(blocks >= 6, "it shows only " + blocks + " runs");
        Files.createDirectories(OUT);
        Path file = OUT.resolve("Shown.java");
        Files.writeString(file, "public final class Shown {\n" + members + "public static void main(String[] args) {\n" + main + "}\n}\n");
        String path = System.getProperty("java.class.path");
        JavaCompiler javac = ToolProvider.getSystemJavaCompiler();
        check(javac != null, "this java has no javac with it");
        if (javac == null) return;
        int failed = javac.run(null, System.out, System.out, "-cp", path, "-d", OUT.toString(), file.toString());
        check(failed == 0, "what it shows does not compile");
        if (failed != 0) return;
        try (var loader = new java.net.URLClassLoader(new java.net.URL[] {OUT.toUri().toURL()}, ReadmeTest.class.getClassLoader())) {
            loader.loadClass("Shown").getMethod("main", String[].class).invoke(null, (Object) new String[0]);
        }
    }

    /** Each line of a run must be a new object or a call with its answer. */
    private static String made(List<String> block, int start) {
        StringBuilder code = new StringBuilder();
        for (int k = 0; k < block.size(); k++) {
            String line = block.get(k);
            int number = start + k + 1;
            Matcher m = CALL.matcher(line);
            if (line.equals("TreeHands x = new TreeHands();")) {
                code.append(line).append('\n');
            } else if (m.matches()) {
                shown++;
                String call = m.group(1);
                shownCalls.add(call.replaceAll("^x\\.|\\(.*", ""));
                String want = m.group(2).matches("-?\\d+") ? m.group(2) : "TreeHands." + m.group(2);
                code.append("ReadmeTest.due(").append(number).append(", \"").append(call.replace("\"", "\\\"")).append("\", ")
                    .append(call).append(", ").append(want).append(");\n");
            } else {
                check(false, "line " + number + " shows no answer: " + line);
            }
        }
        return code.toString();
    }

    // ---- what is named

    private static void calls(String text) {
        Set<String> told = new TreeSet<>();
        Matcher m = Pattern.compile("(?m)^\\| `(\\w+)\\(([^)]*)\\)` \\|").matcher(text);
        while (m.find()) told.add(m.group(1) + " " + (m.group(2).isEmpty() ? 0 : m.group(2).split(",").length));
        Set<String> has = new TreeSet<>();
        for (Method one : TreeHands.class.getDeclaredMethods()) {
            if (!Modifier.isPublic(one.getModifiers())) continue;
            has.add(one.getName() + " " + one.getParameterCount());
            check(shownCalls.contains(one.getName()), one.getName() + " is not shown");
        }
        check(told.equals(has), "its table has the calls " + told + ", the class " + has);
    }

    private static void answers(String text) throws ReflectiveOperationException {
        int many = 0;
        Matcher m = Pattern.compile("(?m)^\\| `([A-Z]+)` \\| (-\\d+) \\|").matcher(text);
        while (m.find()) {
            many++;
            int value = TreeHands.class.getField(m.group(1)).getInt(null);
            check(value == Integer.parseInt(m.group(2)), m.group(1) + " is " + value);
        }
        check(many == 6, "its table has " + many + " answers");
    }

    private static void tests(String text) throws IOException {
        Set<String> told = new TreeSet<>();
        Matcher m = Pattern.compile("(?m)^- `(\\w+Test)`:").matcher(text);
        while (m.find()) told.add(m.group(1));
        Set<String> has = new TreeSet<>();
        try (Stream<Path> files = Files.list(Path.of("src/test/java"))) {
            for (Path file : files.toList()) {
                String name = file.getFileName().toString();
                if (name.endsWith("Test.java")) has.add(name.substring(0, name.length() - ".java".length()));
            }
        }
        check(told.equals(has), "it names the tests " + told + ", there are " + has);
        check(Files.isExecutable(Path.of(".ci/run")) && text.contains("`.ci/run`"), "it does not say how to run its tests");
    }
}
