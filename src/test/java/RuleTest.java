import java.io.IOException;
import java.lang.reflect.Field;
import java.lang.reflect.Method;
import java.lang.reflect.Modifier;
import java.nio.file.Files;
import java.nio.file.Path;
import java.util.ArrayList;
import java.util.List;
import java.util.Set;
import java.util.TreeSet;
import java.util.regex.Matcher;
import java.util.regex.Pattern;

/** Rules of LANGUAGE.md that can be seen in the class's file and by reflection. */
public final class RuleTest extends Check {
    private static final int METHOD_LINES = 60, PARAMETERS = 7, CLASSES = 12, FIELDS = 20;

    /** The file without its comments and written texts. */
    private static String code() throws IOException {
        String all = Files.readString(Path.of("src/main/java/LinearTruths.java"));
        return all.replaceAll("(?s)/\\*.*?\\*/", "").replaceAll("//[^\n]*", "").replaceAll("\"[^\"\n]*\"", "\"\"");
    }

    private static Set<String> all(String code, String pattern) {
        Set<String> found = new TreeSet<>();
        Matcher m = Pattern.compile(pattern).matcher(code);
        while (m.find()) found.add(m.group(1));
        return found;
    }

    private static void words(String code) {
        due("imports", all(code, "import ([^;]*);"), "[java.util.Arrays]");
        due("a package line", all(code, "(?m)^(package )"), "[]");
        due("words that no rule leaves", all(code,
                "\\b(try|catch|finally|synchronized|assert|transient|volatile|native|protected|\\w+Exact|getMessage)\\b"), "[]");
        due("lambdas and method references", all(code, "(->|::)"), "[]");
        due("static initialiser blocks", all(code, "(static\\s*\\{)"), "[]");
        due("what is thrown", all(code, "throw ([^;(]*)\\("),
                "[new IllegalArgumentException, new IllegalStateException, new UnsupportedOperationException]");
        due("what is called of the library", all(code, "\\b((?:Arrays|Math|System|Integer|Long)\\.\\w+)\\("),
                "[Arrays.copyOf, Arrays.fill, Math.abs, Math.max, Math.min, System.arraycopy]");
        due("a method that no end of loop can be seen in", all(code, "(while \\(true\\)|for \\([^;]*;\\s*;)"), "[]");
    }

    /** A method's lines are those from its head to the first brace that stands as far left as the head. */
    private static void methodLines(String code) {
        Matcher m = Pattern.compile("(?ms)^( +)(?:[\\w\\[\\]]+ )*(\\w+)\\([^()]*\\)[\\w, ]* \\{\n(.*?)^\\1\\}").matcher(code);
        int methods = 0;
        while (m.find()) {
            methods++;
            int lines = m.group(3).split("\n").length + 2;
            due("lines of " + m.group(2) + " are few enough", lines <= METHOD_LINES, true);
        }
        due("methods were found", methods > 60, true);
    }

    private static List<Class<?>> classes() {
        List<Class<?>> all = new ArrayList<>(List.of(LinearTruths.class));
        all.addAll(List.of(LinearTruths.class.getDeclaredClasses()));
        return all;
    }

    private static void fields(Class<?> c) {
        int own = 0;
        for (Field f : c.getDeclaredFields()) {
            boolean isStatic = Modifier.isStatic(f.getModifiers());
            own += isStatic ? 0 : 1;
            due(c.getName() + "." + f.getName() + " is final or not static", Modifier.isFinal(f.getModifiers()) || !isStatic, true);
        }
        due("fields of " + c.getName() + " are few enough", own <= FIELDS, true);
    }

    private static void methods(Class<?> c, Set<String> face) {
        for (Method m : c.getDeclaredMethods()) {
            String name = c.getName() + "." + m.getName();
            due("parameters of " + name + " are few enough", m.getParameterCount() <= PARAMETERS, true);
            boolean isFace = c == LinearTruths.class && Modifier.isPublic(m.getModifiers());
            due(name + " bears a name of the face", face.contains(m.getName()), isFace);
            due(name + " is private, if it is no method of the face",
                    isFace || c != LinearTruths.class || Modifier.isPrivate(m.getModifiers()), true);
        }
    }

    private static void shapes() {
        Set<String> face = new TreeSet<>();
        for (Method m : LinearTruths.class.getDeclaredMethods()) {
            if (Modifier.isPublic(m.getModifiers())) face.add(m.getName());
        }
        due("classes are few enough", classes().size() <= CLASSES, true);
        for (Class<?> c : classes()) {
            fields(c);
            methods(c, face);
            due(c.getName() + " is static, if it is inside", c == LinearTruths.class || Modifier.isStatic(c.getModifiers()), true);
            due(c.getName() + " has no classes inside, if it is inside",
                    c == LinearTruths.class || c.getDeclaredClasses().length == 0, true);
        }
    }

    public static void main(String[] args) throws IOException {
        String code = code();
        words(code);
        methodLines(code);
        shapes();
        end("rules");
    }
}
