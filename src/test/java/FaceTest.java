import java.lang.reflect.Constructor;
import java.lang.reflect.Field;
import java.lang.reflect.Method;
import java.lang.reflect.Modifier;
import java.util.Arrays;
import java.util.Set;
import java.util.TreeSet;

/** The face of the class is that of the document, and nothing else of it can be seen. */
public final class FaceTest {
    private static final String[] METHODS = {
        "int append(int, int, int, int, int) IllegalStateException",
        "int truncate(int) IllegalArgumentException",
        "int errorPosition()",
        "int load() IllegalArgumentException",
        "int addEdge(int, int) IllegalArgumentException IllegalStateException IndexOutOfBoundsException",
        "int removeEdge(int, int) IllegalArgumentException IllegalStateException IndexOutOfBoundsException",
        "int put(int, int) IllegalArgumentException IndexOutOfBoundsException",
        "int take(int, int) IllegalArgumentException IllegalStateException IndexOutOfBoundsException",
        "int move(int, int) IllegalStateException IndexOutOfBoundsException",
        "int reach(int) IllegalStateException IndexOutOfBoundsException",
        "int addStrategy(int) IllegalStateException IndexOutOfBoundsException",
        "int weigh(int, int, int, int) IllegalArgumentException IndexOutOfBoundsException",
        "int dropStrategy(int) IndexOutOfBoundsException",
        "int undo() IllegalStateException",
        "int undoCount()",
        "int save()",
        "int restore() IllegalStateException",
        "int reason()",
        "int count(int) IllegalArgumentException",
        "boolean isEdge(int, int) IndexOutOfBoundsException",
        "int distance(int, int) IndexOutOfBoundsException",
        "int farthest(int) IndexOutOfBoundsException",
        "int pebbles(int) IndexOutOfBoundsException",
        "int moves(int) IndexOutOfBoundsException",
        "boolean isReachable(int) IndexOutOfBoundsException",
        "int reachable()",
        "int next(int) IndexOutOfBoundsException NoSuchElementException",
        "int fewest(int) IndexOutOfBoundsException NoSuchElementException UnsupportedOperationException",
        "int ahead()",
        "int number(int) IndexOutOfBoundsException",
        "int graphNumber()",
        "int worst(int, int) IndexOutOfBoundsException",
        "int worstPiles(int) IndexOutOfBoundsException",
        "int failing(int, int) IllegalArgumentException IndexOutOfBoundsException",
        "int treeNumber(int) IndexOutOfBoundsException UnsupportedOperationException",
        "int strategy(int, int, int) IllegalArgumentException IndexOutOfBoundsException",
        "int wrong(int) IndexOutOfBoundsException",
        "int weight(int, boolean) IndexOutOfBoundsException",
        "boolean proves(int) IndexOutOfBoundsException",
        "int bound(int) IndexOutOfBoundsException NoSuchElementException",
        "int stack(int) IndexOutOfBoundsException",
        "int coverNumber()",
        "boolean canCover() UnsupportedOperationException",
        "int lacking() UnsupportedOperationException",
    };

    private FaceTest() {
    }

    private static String told(Method method) {
        StringBuilder text = new StringBuilder(method.getReturnType().getSimpleName());
        text.append(' ').append(method.getName()).append('(');
        String between = "";
        for (Class<?> type : method.getParameterTypes()) {
            text.append(between).append(type.getSimpleName());
            between = ", ";
        }
        text.append(')');
        Set<String> thrown = new TreeSet<>();
        for (Class<?> type : method.getExceptionTypes()) {
            thrown.add(type.getSimpleName());
        }
        for (String one : thrown) {
            text.append(' ').append(one);
        }
        return text.toString();
    }

    public static void main(String[] args) {
        Class<?> type = PebbleProofs.class;
        Checks.due("public final class", Modifier.toString(type.getModifiers()), "public final");
        Checks.due("NONE", PebbleProofs.NONE, -1);

        Set<String> seen = new TreeSet<>();
        Set<String> hidden = new TreeSet<>();
        for (Method method : type.getDeclaredMethods()) {
            if (Modifier.isPrivate(method.getModifiers()) || method.isSynthetic()) {
                hidden.add(method.getName());
            } else {
                Checks.due(method + " is public alone", Modifier.toString(method.getModifiers()), "public");
                seen.add(told(method));
            }
        }
        Checks.due("the methods", seen, new TreeSet<>(Arrays.asList(METHODS)));
        for (Method method : type.getDeclaredMethods()) {
            if (Modifier.isPublic(method.getModifiers())) {
                Checks.due("a private " + method.getName(), hidden.contains(method.getName()), false);
            }
        }

        for (Field field : type.getDeclaredFields()) {
            boolean constant = field.getName().equals("NONE");
            Checks.due(field + " is private", Modifier.isPrivate(field.getModifiers()), !constant);
            if (constant) {
                Checks.due("NONE", Modifier.toString(field.getModifiers()), "public static final");
            }
        }
        Constructor<?>[] constructors = type.getDeclaredConstructors();
        Checks.due("constructors", constructors.length, 1);
        Checks.due("the constructor", constructors[0].toString(), "public PebbleProofs()");
        Checks.due("interfaces", type.getInterfaces().length, 0);
        Checks.end();
    }
}
