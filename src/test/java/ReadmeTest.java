import java.io.IOException;
import java.lang.reflect.Method;
import java.lang.reflect.Modifier;
import java.nio.file.Files;
import java.nio.file.Path;
import java.util.regex.Matcher;
import java.util.regex.Pattern;

/** That README.md names every call as the class has it, and that its example answers what it tells. */
public final class ReadmeTest extends Check {
    private static String readme;

    /** What README.md tells behind a line of its example, up to the colon. */
    private static String toldBehind(String line) {
        Matcher m = Pattern.compile(Pattern.quote(line) + " +// ([^:\n]*)").matcher(readme);
        return m.find() ? m.group(1) : "nothing";
    }

    private static void example() {
        LinearTruths truths = new LinearTruths();
        String text = "Ea.(a>b & a<c)";
        due("README.md has the example's text", readme.contains("for (char letter : \"" + text + "\".toCharArray())"), true);
        int typed = 0;
        for (char letter : text.toCharArray()) typed = truths.type(letter, 1);
        due("example: type", toldBehind("truths.type(letter, 1);"), "1, 2, .. " + typed);
        due("example: read", toldBehind("int fault = truths.read();"), truths.read());
        due("example: free", toldBehind("int bits = truths.free();"), truths.free());
        due("example: decide", toldBehind("int before = truths.decide();"), truths.decide());
        due("example: frees", toldBehind("int nodes = truths.frees();"), truths.frees());
        due("example: what is freed", written(truths), "b-c<0");
        truths.value(1, 1, 2);
        due("example: value of b", toldBehind("truths.value(1, 1, 2);"), "b is 1/2");
        truths.value(2, 3, 4);
        due("example: value of c", toldBehind("truths.value(2, 3, 4);"), "c is 3/4");
        due("example: holds", toldBehind("int truth = truths.holds();"), truths.holds());
        due("example: write", toldBehind("int bytes = truths.write();"), truths.write());
        due("example: out", toldBehind("long letters = truths.out(0);"), truths.out(0));
        due("example: not", toldBehind("int opposite = truths.not();"), truths.not());
        due("example: what is not", written(truths), "-b+c<=0");
    }

    /** The row of README.md's table of calls for a call, or nothing. */
    private static String rowOf(String call) {
        for (String line : readme.split("\n")) {
            if (line.startsWith("| `" + call)) return line;
        }
        return "";
    }

    private static void calls() {
        due("README.md has LinearTruths()", rowOf("LinearTruths()").isEmpty(), false);
        for (Method m : LinearTruths.class.getDeclaredMethods()) {
            if (!Modifier.isPublic(m.getModifiers())) continue;
            String row = rowOf(m.getReturnType() + " " + m.getName() + "(");
            due("README.md has " + m.getName(), row.isEmpty(), false);
            for (Class<?> thrown : m.getExceptionTypes()) {
                due("README.md has " + thrown.getSimpleName() + " of " + m.getName(),
                        row.contains("`" + thrown.getSimpleName() + "`: "), true);
            }
            due("README.md tells no more exceptions of " + m.getName(),
                    row.split("Exception`").length - 1, m.getExceptionTypes().length);
        }
        due("README.md has NONE and GREAT", readme.contains("`LinearTruths.NONE` is " + LinearTruths.NONE
                + ", `LinearTruths.GREAT` is " + LinearTruths.GREAT), true);
    }

    public static void main(String[] args) throws IOException {
        readme = Files.readString(Path.of("README.md"));
        example();
        calls();
        end("readme");
    }
}
