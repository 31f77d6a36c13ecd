import java.io.IOException;
import java.lang.reflect.Method;
import java.nio.file.Files;
import java.nio.file.Path;
import java.util.Set;
import java.util.TreeSet;
import java.util.regex.Matcher;
import java.util.regex.Pattern;

// The example of README.md answers what is written beside it, and its table names every call.
public final class ReadmeTest {
    private static final Pattern CALL =
        Pattern.compile("(?m)^game\\.(\\w+)\\((?:(-?\\d+)(?:, (-?\\d+))?)?\\); *// (-?\\d+)(?:: .*)?$");

    private static int wrong = 0;

    private static void must(boolean holds, String rule) {
        if (!holds) {
            wrong++;
            System.out.println("not so: " + rule);
        }
    }

    private static int answer(OpenTricks x, Matcher call) throws ReflectiveOperationException {
        String name = call.group(1);
        if (call.group(2) == null) {
            return (int) OpenTricks.class.getMethod(name).invoke(x);
        }
        int first = Integer.parseInt(call.group(2));
        if (call.group(3) == null) {
            return (int) OpenTricks.class.getMethod(name, int.class).invoke(x, first);
        }
        int second = Integer.parseInt(call.group(3));
        return (int) OpenTricks.class.getMethod(name, int.class, int.class).invoke(x, first, second);
    }

    private static void example(String text) throws ReflectiveOperationException {
        OpenTricks x = new OpenTricks();
        Matcher call = CALL.matcher(text);
        int calls = 0;
        while (call.find()) {
            calls++;
            int got = answer(x, call);
            must(got == Integer.parseInt(call.group(4)), call.group() + " (it answered " + got + ")");
        }
        long written = text.lines().filter(line -> line.startsWith("game.")).count();
        must(calls > 0 && calls == written, "all " + written + " calls of the example are looked at, not " + calls);
    }

    private static void table(String text) {
        Set<String> named = new TreeSet<>();
        Matcher row = Pattern.compile("(?m)^\\| `(\\w+)\\(").matcher(text);
        while (row.find()) {
            named.add(row.group(1));
        }
        Set<String> open = new TreeSet<>();
        for (Method m : OpenTricks.class.getMethods()) {
            if (m.getDeclaringClass() == OpenTricks.class) {
                open.add(m.getName());
            }
        }
        must(named.equals(open), "the table names the calls " + open + ", not " + named);
    }

    public static void main(String[] args) throws IOException, ReflectiveOperationException {
        String text = Files.readString(Path.of("README.md"));
        example(text);
        table(text);
        System.out.println(wrong == 0 ? "README.md is as due" : wrong + " things in README.md are not so");
        if (wrong != 0) {
            System.exit(1);
        }
    }
}
