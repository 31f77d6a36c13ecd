import java.io.IOException;
import java.lang.reflect.Constructor;
import java.lang.reflect.Field;
import java.lang.reflect.Method;
import java.lang.reflect.Modifier;
import java.nio.file.Files;
import java.nio.file.Path;
import java.util.ArrayList;
import java.util.HashSet;
import java.util.List;
import java.util.Map;
import java.util.Set;
import java.util.TreeMap;
import java.util.TreeSet;
import java.util.regex.Matcher;
import java.util.regex.Pattern;

// The public face, and those rules of LANGUAGE.md that a program can look at.
public final class FaceTest {
    private static final Set<String> FACE = new TreeSet<>(List.of(
        "int BAD_ARG", "int FULL", "int OFF", "int NONE", "OpenTricks()",
        "int deal(int,int)", "void clear()", "int hand(int)", "int start(int,int)", "int toPlay()",
        "int legal()", "int play(int)", "int undo()", "int won(int)", "int winning()", "int value()",
        "int after(int)", "int best()", "int least()", "int courses()"));

    private static int wrong = 0;

    private static void must(boolean holds, String rule) {
        if (!holds) {
            wrong++;
            System.out.println("not so: " + rule);
        }
    }

    private static String parameters(Class<?>[] types) {
        StringBuilder told = new StringBuilder();
        for (Class<?> type : types) {
            told.append(told.length() == 0 ? "" : ",").append(type.getName());
        }
        return "(" + told + ")";
    }

    private static void members() {
        Class<?> face = OpenTricks.class;
        Set<String> open = new TreeSet<>();
        Set<String> openNames = new HashSet<>();
        Set<String> privateNames = new HashSet<>();
        int fields = 0;
        for (Field f : face.getDeclaredFields()) {
            boolean constant = Modifier.isStatic(f.getModifiers()) && Modifier.isFinal(f.getModifiers());
            if (Modifier.isPublic(f.getModifiers())) {
                open.add(f.getType().getName() + " " + f.getName());
                must(constant, f.getName() + " is static and final");
            } else {
                must(Modifier.isPrivate(f.getModifiers()), "rule 1: " + f.getName() + " is private");
            }
            if (Modifier.isStatic(f.getModifiers())) {
                must(constant && f.getType().isPrimitive(), "rule 5: " + f.getName() + " is a constant");
            } else {
                fields++;
                Class<?> type = f.getType().isArray() ? f.getType().getComponentType() : f.getType();
                must(type.isPrimitive(), "rule 2: the type of " + f.getName());
            }
        }
        for (Constructor<?> c : face.getDeclaredConstructors()) {
            must(Modifier.isPublic(c.getModifiers()), "the constructor is public");
            open.add("OpenTricks" + parameters(c.getParameterTypes()));
        }
        for (Method m : face.getDeclaredMethods()) {
            must(m.getParameterCount() <= 7, "rule 10: parameters of " + m.getName());
            must(!m.getReturnType().isArray(), "rule 4: " + m.getName() + " answers no array");
            if (Modifier.isPublic(m.getModifiers())) {
                must(!Modifier.isStatic(m.getModifiers()), m.getName() + " is not static");
                open.add(m.getReturnType().getName() + " " + m.getName() + parameters(m.getParameterTypes()));
                openNames.add(m.getName());
            } else {
                must(Modifier.isPrivate(m.getModifiers()), "rule 1: " + m.getName() + " is private");
                privateNames.add(m.getName());
            }
        }
        must(open.equals(FACE), "the public members are those of the document; they are " + open);
        privateNames.retainAll(openNames);
        must(privateNames.isEmpty(), "rule 1: private methods with names of their own, not " + privateNames);
        must(Modifier.isFinal(face.getModifiers()) && Modifier.isPublic(face.getModifiers()), "public and final");
        must(face.getDeclaredClasses().length == 0, "rule 1: no nested class");
        must(fields <= 40, "rule 10: at most forty fields");
    }

    private static String program() throws IOException {
        String text = Files.readString(Path.of("src/main/java/OpenTricks.java"));
        return text.replaceAll("(?s)/\\*.*?\\*/", " ").replaceAll("//[^\n]*", " ");
    }

    private static void words(String code) {
        Matcher found = Pattern.compile("\\b(package|import|float|double|String|Math|Integer|System|Arrays|null|throw"
            + "|throws|try|catch|synchronized|assert|instanceof|protected|interface|enum|record)\\b|->|::|\"").matcher(code);
        while (found.find()) {
            must(false, "rules 2, 3, 6: without " + found.group());
        }
        Matcher made = Pattern.compile("(?m)^.*\\bnew\\b.*$").matcher(code);
        while (made.find()) {
            boolean inField = made.group().matches(" {4}private final \\w+\\[\\] \\w+ = new \\w+\\[(\\d+|[A-Z_]+)\\];");
            must(inField, "rule 4: arrays are made in fields, their length a literal or a constant: " + made.group());
        }
    }

    // The body of each method and of the constructor, by name; the program indents them all alike.
    private static Map<String, String> bodies(String code) {
        Map<String, String> bodies = new TreeMap<>();
        Matcher method = Pattern.compile("(?ms)^ {4}(?:public|private) [^=;{]*?(\\w+)\\([^)]*\\) \\{\n(.*?)^ {4}\\}").matcher(code);
        while (method.find()) {
            must(bodies.put(method.group(1), method.group(2)) == null, "one method named " + method.group(1));
        }
        return bodies;
    }

    // Where the bracket that opens at this place closes.
    private static int closing(String text, int open) {
        int depth = 0;
        for (int i = open; i < text.length(); i++) {
            depth += text.charAt(i) == '(' ? 1 : text.charAt(i) == ')' ? -1 : 0;
            if (depth == 0) {
                return i;
            }
        }
        return text.length();
    }

    // How many methods deep a call of this one goes, itself counted.
    private static int depth(String name, Map<String, Set<String>> calls, List<String> above) {
        must(!above.contains(name), "rule 8: no recursion, but " + above + " calls " + name);
        if (above.contains(name)) {
            return 0;
        }
        List<String> path = new ArrayList<>(above);
        path.add(name);
        int deepest = 0;
        for (String called : calls.get(name)) {
            deepest = Math.max(deepest, depth(called, calls, path));
        }
        return deepest + 1;
    }

    // The rules allow other loops with a counter too, but only of this form can a pattern see the end.
    private static void loops(String name, String body) {
        Matcher loop = Pattern.compile("\\b(?:while|do|for)\\b[^\n]*").matcher(body);
        while (loop.find()) {
            boolean counts = loop.group().matches("for \\(int (\\w+) = [^;]+; \\1 <=? [^;|]+; \\1\\+\\+\\) \\{");
            must(counts, "rule 8: a counter against a bound in " + name + ": " + loop.group());
        }
    }

    private static void calls(String code) {
        Map<String, String> bodies = bodies(code);
        must(bodies.size() == OpenTricks.class.getDeclaredMethods().length + 1, "every method is looked at");
        Pattern call = Pattern.compile("\\b(" + String.join("|", bodies.keySet()) + ")\\(");
        Map<String, Set<String>> calls = new TreeMap<>();
        for (Map.Entry<String, String> method : bodies.entrySet()) {
            String name = method.getKey();
            String body = method.getValue();
            must(body.lines().count() <= 60, "rule 10: " + name + " has at most sixty lines");
            loops(name, body);
            calls.put(name, new TreeSet<>());
            Matcher found = call.matcher(body);
            while (found.find()) {
                calls.get(name).add(found.group(1));
                String arguments = body.substring(found.end(), closing(body, found.end() - 1));
                must(!call.matcher(arguments).find(), "rule 10: no call inside " + found.group() + arguments + ")");
            }
        }
        for (String name : bodies.keySet()) {
            must(depth(name, calls, List.of()) <= 6, "rule 10: " + name + " goes at most six calls deep");
        }
    }

    public static void main(String[] args) throws IOException {
        String code = program();
        members();
        words(code);
        calls(code);
        System.out.println(wrong == 0 ? "the face is as due" : wrong + " rules are broken");
        if (wrong != 0) {
            System.exit(1);
        }
    }
}
