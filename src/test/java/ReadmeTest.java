import java.io.IOException;
import java.lang.reflect.InvocationTargetException;
import java.lang.reflect.Method;
import java.nio.file.DirectoryStream;
import java.nio.file.Files;
import java.nio.file.Path;
import java.util.ArrayList;
import java.util.List;
import java.util.regex.Matcher;
import java.util.regex.Pattern;

/** The examples in README.md: each call answers what stands behind it. */
public final class ReadmeTest {
    private static final Pattern NEW = Pattern.compile("PebbleProofs x = new PebbleProofs\\(\\);.*");
    private static final Pattern LOAD = Pattern.compile("load\\(x, \"([^\"]*)\"\\); +// (.*)");
    private static final Pattern CALL = Pattern.compile("x\\.(\\w+)\\(([^()]*)\\); +// (.*)");
    private static final Pattern THROWS = Pattern.compile("throws (\\w+)");

    private PebbleProofs x = new PebbleProofs();
    private int answers;

    private ReadmeTest() {
    }

    /** What a comment says that is due: the exception, or the first word. */
    private static String due(String comment) {
        Matcher thrown = THROWS.matcher(comment);
        return thrown.lookingAt() ? thrown.group(1) : comment.split("[: ]")[0];
    }

    private static Object argument(String written) {
        if (written.equals("true") || written.equals("false")) {
            return written.equals("true");
        }
        return Integer.valueOf(written);
    }

    private static Method methodOf(String name) {
        for (Method method : PebbleProofs.class.getMethods()) {
            if (method.getName().equals(name)) {
                return method;
            }
        }
        throw new IllegalArgumentException("there is no method " + name);
    }

    private Object answer(String name, String written) throws IllegalAccessException {
        List<Object> arguments = new ArrayList<>();
        for (String one : written.split(", ")) {
            if (!one.isEmpty()) {
                arguments.add(argument(one));
            }
        }
        try {
            return methodOf(name).invoke(x, arguments.toArray());
        } catch (InvocationTargetException e) {
            return e.getCause().getClass().getSimpleName();
        }
    }

    private void follow(String line) throws IllegalAccessException {
        Matcher load = LOAD.matcher(line);
        Matcher call = CALL.matcher(line);
        if (NEW.matcher(line).matches()) {
            x = new PebbleProofs();
        } else if (load.matches()) {
            Checks.type(x, load.group(1));
            Checks.due(line, String.valueOf(Checks.answer(() -> x.load())), due(load.group(2)));
            answers++;
        } else if (call.matches()) {
            Checks.due(line, String.valueOf(answer(call.group(1), call.group(2))), due(call.group(3)));
            answers++;
        }
    }

    private static void namesAllTests(String page) throws IOException {
        try (DirectoryStream<Path> files = Files.newDirectoryStream(Path.of("src", "test", "java"), "*Test.java")) {
            for (Path file : files) {
                String name = file.getFileName().toString().replace(".java", "");
                Checks.due("README.md tells of " + name, page.contains("`" + name + "`"), true);
            }
        }
        Checks.due("README.md tells of .ci/run", page.contains(".ci/run"), true);
    }

    public static void main(String[] args) throws IOException, IllegalAccessException {
        ReadmeTest test = new ReadmeTest();
        int comments = 0;
        for (String line : Files.readAllLines(Path.of("README.md"))) {
            comments += line.startsWith("x.") || line.startsWith("load(") ? 1 : 0;
            test.follow(line);
        }
        Checks.due("examples that were followed", test.answers, comments);
        Checks.due("there are examples", comments > 20, true);
        namesAllTests(Files.readString(Path.of("README.md")));
        Checks.end();
    }
}
