import java.io.IOException;
import java.lang.reflect.Method;
import java.lang.reflect.Modifier;
import java.nio.charset.StandardCharsets;
import java.nio.file.Files;
import java.nio.file.Path;
import java.util.ArrayList;
import java.util.HashSet;
import java.util.List;
import java.util.Map;
import java.util.Set;
import java.util.TreeMap;
import java.util.TreeSet;
import java.util.regex.Matcher;
import java.util.regex.Pattern;

/** What of ../shared/LANGUAGE.md can be seen in the text of the class. */
public final class RulesTest {
    private static final Pattern HEADER = Pattern.compile(
            "(?:(?:public|private|static|final) )*(?:[\\w\\[\\]<>]+ )?(\\w+)\\(([\\w ,\\[\\]<>]*)\\)"
            + "(?:\\s*throws [\\w, ]+)?\\s*\\{");
    private static final Pattern CALL = Pattern.compile("\\b(\\w+)\\(");
    private static final Set<String> WORDS = Set.of("if", "for", "while", "switch", "catch", "return", "else", "do");

    private final String text;
    private final Map<String, Set<String>> calls = new TreeMap<>();
    private final Set<String> open = new HashSet<>();

    private RulesTest(String text) {
        this.text = text;
    }

    private static String withoutComments(String source) {
        String bare = Pattern.compile("\"(?:[^\"\\\\\\n]|\\\\.)*\"").matcher(source).replaceAll("\"\"");
        bare = Pattern.compile("/\\*.*?\\*/", Pattern.DOTALL).matcher(bare).replaceAll(
                found -> "\n".repeat((int) found.group().chars().filter(c -> c == '\n').count()));
        return bare.replaceAll("//[^\\n]*", "");
    }

    private void none(String pattern) {
        Matcher found = Pattern.compile(pattern).matcher(text);
        Checks.due(pattern, found.find() ? found.group() : "nothing", "nothing");
    }

    private void words() {
        none("->");
        none("::");
        none("\\b(synchronized|assert|finally|try|catch|package|instanceof|float|double|var|volatile|native)\\b");
        none("\\b(System\\.(?!arraycopy)\\w+|Random|Thread|Runtime|File|Date|Object|Class)\\b");
        none("Exact\\(");
        none("\\b(toString|equals|hashCode|getMessage|values)\\(");
        none("\\b(HashMap|HashSet|TreeMap|Map|Set|Collections|Stream|Optional|StringBuffer)\\b");
        none("while \\(true\\)|for \\(;;\\)");
        none("\\b(Integer|Long)\\.M[A-Z]+_VALUE");
        none("[^\\x01-\\x7f]");
        Matcher imported = Pattern.compile("import ([\\w.]+);").matcher(text);
        while (imported.find()) {
            Checks.due(imported.group(1), Set.of("java.util.Arrays", "java.util.NoSuchElementException")
                    .contains(imported.group(1)), true);
        }
        Matcher nested = Pattern.compile("([\\w ]*)\\bclass (\\w+)").matcher(text);
        int classes = 0;
        while (nested.find()) {
            classes++;
            Checks.due(nested.group(2), nested.group(1).strip().equals("private static final")
                    || nested.group(2).equals("PebbleProofs"), true);
        }
        Checks.due("at most twelve classes", classes <= 12, true);
        Matcher field = Pattern.compile("\\bstatic (?!final )[^(;{]*[;=]").matcher(text);
        Checks.due("a static field that is not final", field.find() ? field.group() : "", "");
    }

    private int end(int start) {
        int depth = 0;
        for (int i = start; i < text.length(); i++) {
            depth += text.charAt(i) == '{' ? 1 : text.charAt(i) == '}' ? -1 : 0;
            if (depth == 0) {
                return i;
            }
        }
        return text.length();
    }

    private List<String> methods() {
        List<String> longest = new ArrayList<>();
        Matcher header = HEADER.matcher(text);
        while (header.find()) {
            String name = header.group(1);
            if (WORDS.contains(name)) {
                continue;
            }
            String body = text.substring(header.end() - 1, end(header.end() - 1));
            int lines = (int) body.chars().filter(c -> c == '\n').count();
            Checks.due(name + " has at most 60 lines, has " + lines, lines <= 60, true);
            Checks.due("parameters of " + name, header.group(2).split(",").length <= 7, true);
            Set<String> called = calls.computeIfAbsent(name, key -> new TreeSet<>());
            Matcher call = CALL.matcher(body);
            while (call.find()) {
                if (!WORDS.contains(call.group(1))) {
                    called.add(call.group(1));
                }
            }
            longest.add(name);
        }
        return longest;
    }

    /** The methods of the class that stand open when this one calls on, itself included. */
    private int depth(String name) {
        if (!calls.containsKey(name)) {
            return 0;
        }
        if (!open.add(name)) {
            Checks.due("recursion of " + name, true, false);
            return 0;
        }
        int deepest = 0;
        for (String called : calls.get(name)) {
            deepest = Math.max(deepest, depth(called));
        }
        open.remove(name);
        return deepest + 1;
    }

    public static void main(String[] args) throws IOException {
        String path = args.length > 0 ? args[0] : "src/main/java/PebbleProofs.java";
        RulesTest test = new RulesTest(withoutComments(Files.readString(Path.of(path), StandardCharsets.UTF_8)));
        test.words();
        List<String> methods = test.methods();
        Checks.due("there are methods", methods.size() > 100, true);
        for (String name : methods) {
            int depth = test.depth(name);
            Checks.due(name + " calls at most eight deep, calls " + depth, depth <= 8, true);
        }
        Set<String> face = new TreeSet<>();
        for (Method method : PebbleProofs.class.getDeclaredMethods()) {
            if (Modifier.isPublic(method.getModifiers())) {
                face.add(method.getName());
            }
        }
        for (String name : face) {
            int times = 0;
            for (String method : methods) {
                times += method.equals(name) ? 1 : 0;
            }
            Checks.due("methods with the name " + name, times, 1);
        }
        Checks.end();
    }
}
