import java.lang.reflect.Constructor;
import java.lang.reflect.Field;
import java.lang.reflect.Method;
import java.lang.reflect.Modifier;
import java.nio.file.Files;
import java.nio.file.Path;
import java.util.ArrayList;
import java.util.HashSet;
import java.util.List;
import java.util.Set;
import java.util.TreeSet;
import java.util.regex.Matcher;
import java.util.regex.Pattern;

/** The class has the document's face and no more, and its text keeps to what can be seen of LANGUAGE.md by reading. */
public final class FaceTest {
    private static int wrong = 0;

    private static final String[] FACE = {
        "int say(int)", "int wipe()", "int fault()", "int read(int)", "int node(int,int,int)", "int sign(int,int)",
        "int take(int,int,int)", "int alike(int,int,int,int)", "int price(int,int)", "int least(int,int)",
        "int led(int,int,int)", "int edits(int,int,int)", "int moved(int,int,int)", "int common(int,int,int,int,int)",
        "int twice(int,int)", "int rule(int,int)", "int clear()", "int fits(int,int)", "int make(int,int,int)",
        "int walk(int,boolean)", "int steps()", "int overlap(int,int,int)", "int peak(int,int,int,int)",
        "int overlaps(int)", "int told(int)"
    };

    private static final String[] CONSTANTS = {"NONE", "UNKNOWN", "OUTSIDE", "STATE", "FULL", "NO"};

    private static final String[] FORBIDDEN = {
        "->", "::", "\\btry\\b", "\\bcatch\\b", "\\bfinally\\b", "\\bsynchronized\\b", "\\bassert\\b", "\\bthrow\\b",
        "\\bimport\\b", "\\bpackage\\b", "\\bprotected\\b", "\\bvolatile\\b", "\\bnative\\b", "Object", "System\\.(?!arraycopy)",
        "while \\(true\\)", "for \\(;;"
    };

    /** What it uses of the library; LANGUAGE.md has more. */
    private static final Set<String> LIBRARY = Set.of("Math.min", "Math.max", "Integer.bitCount", "System.arraycopy");

    private static final String THROWN = "\\w*Exception|\\w*Error|Throwable";

    private static void check(boolean right, String what) {
        if (!right) {
            wrong++;
            System.out.println("FaceTest: " + what);
        }
    }

    public static void main(String[] args) throws Exception {
        face();
        text(Files.readString(Path.of("src/main/java/TreeHands.java")));
        System.out.println(wrong == 0 ? "FaceTest: the face is as told" : "FaceTest: " + wrong + " wrong");
        if (wrong != 0) System.exit(1);
    }

    private static void face() throws Exception {
        Class<?> c = TreeHands.class;
        check(c.getModifiers() == (Modifier.PUBLIC | Modifier.FINAL), "the class is not just public and final");
        Set<String> open = new TreeSet<>();
        Set<String> openNames = new HashSet<>();
        for (Method m : c.getDeclaredMethods()) {
            if (Modifier.isPrivate(m.getModifiers())) continue;
            check(m.getModifiers() == Modifier.PUBLIC, m + " is not just public");
            open.add(written(m));
            openNames.add(m.getName());
        }
        check(open.equals(new TreeSet<>(List.of(FACE))), "methods are " + open);
        for (Method m : c.getDeclaredMethods()) {
            boolean twofold = Modifier.isPrivate(m.getModifiers()) && openNames.contains(m.getName());
            check(!twofold, "a private method bears the name " + m.getName());
        }
        Set<String> fields = new TreeSet<>();
        for (Field f : c.getDeclaredFields()) {
            if (!Modifier.isPrivate(f.getModifiers())) fields.add(f.getName());
            check(!Modifier.isStatic(f.getModifiers()) || Modifier.isFinal(f.getModifiers()), f + " is static, not final");
        }
        check(fields.equals(new TreeSet<>(List.of(CONSTANTS))), "fields are " + fields);
        int[] values = {-6, -1, -2, -3, -4, -5};
        for (int k = 0; k < values.length; k++) {
            Field f = c.getField(CONSTANTS[k]);
            check(f.getInt(null) == values[k], f.getName() + " is not " + values[k]);
            check(f.getType() == int.class, f.getName() + " is no int");
        }
        Constructor<?>[] made = c.getDeclaredConstructors();
        check(made.length == 1 && made[0].getModifiers() == Modifier.PUBLIC && made[0].getParameterCount() == 0, "constructors");
        check(c.getDeclaredClasses().length <= 11, "more than twelve classes");
        for (Class<?> inner : c.getDeclaredClasses()) {
            check(Modifier.isStatic(inner.getModifiers()), inner + " is not static");
            int own = 0;
            for (Field f : inner.getDeclaredFields()) if (!Modifier.isStatic(f.getModifiers())) own++;
            check(own <= 20, inner + " has more than twenty fields");
            for (Method m : inner.getDeclaredMethods()) {
                check(!openNames.contains(m.getName()), m + " bears a name of the face");
                check(m.getParameterCount() <= 7, m + " takes more than seven parameters");
            }
        }
    }

    private static String written(Method m) {
        List<String> types = new ArrayList<>();
        for (Class<?> p : m.getParameterTypes()) types.add(p.getName());
        return m.getReturnType().getName() + " " + m.getName() + "(" + String.join(",", types) + ")";
    }

    private static void text(String whole) {
        check(whole.chars().allMatch(ch -> ch == '\n' || ch >= 32 && ch < 127), "a sign that is not 32 to 126");
        String code = whole.replaceAll("(?s)/\\*.*?\\*/", "").replaceAll("//[^\n]*", "");
        for (String bad : FORBIDDEN) {
            Matcher m = Pattern.compile(bad).matcher(code);
            check(!m.find(), "the text has " + bad);
        }
        Matcher library = Pattern.compile("\\b(Math|Integer|Long|Arrays|System|String|List)\\.(\\w+)").matcher(code);
        while (library.find()) check(LIBRARY.contains(library.group()), "the text has " + library.group());
        check(!Pattern.compile("\\b(new (String|ArrayList|Integer|Thread)|double|float|" + THROWN + ")\\b").matcher(code).find(), "a class that it need not have");
        String[] lines = code.split("\n");
        int start = -1;
        for (int k = 0; k < lines.length; k++) {
            String line = lines[k];
            boolean head = line.matches("( {4}| {8})\\S.*\\) \\{") && !line.matches("\\s*(if|for|while|switch)\\b.*");
            if (head) start = k;
            if (start >= 0 && line.matches("( {4}| {8})\\}")) {
                check(k - start <= 60, "a method of more than sixty lines: " + lines[start].trim());
                start = -1;
            }
        }
    }
}
