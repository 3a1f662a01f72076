import java.lang.reflect.InvocationTargetException;
import java.lang.reflect.Method;
import java.util.ArrayList;
import java.util.Arrays;
import java.util.Comparator;
import java.util.List;
import java.util.Random;

/** Runs of calls that no one picked by hand, each answer compared with that of the Model. */
public final class ModelTest {
    private static final int CALLS = 512;
    private static final List<Method> FACE = face();

    private final Random random;
    private final PebbleProofs real = new PebbleProofs();
    private final Model model = new Model();
    private final List<String> told = new ArrayList<>();
    private int calls = 0;
    private boolean same = true;

    private ModelTest(long seed) {
        random = new Random(seed);
    }

    private static List<Method> face() {
        List<Method> all = new ArrayList<>();
        for (Method method : PebbleProofs.class.getDeclaredMethods()) {
            if (java.lang.reflect.Modifier.isPublic(method.getModifiers())) {
                all.add(method);
            }
        }
        all.sort(Comparator.comparing(Method::getName));
        return all;
    }

    private static Object answer(Object object, String name, Class<?>[] types, Object[] arguments) {
        try {
            Method method = object.getClass().getDeclaredMethod(name, types);
            method.setAccessible(true);
            return method.invoke(object, arguments);
        } catch (InvocationTargetException e) {
            return e.getCause().getClass().getSimpleName();
        } catch (ReflectiveOperationException e) {
            throw new IllegalStateException(e);
        }
    }

    private void call(Method method, Object... arguments) {
        if (calls == CALLS || !same) {
            return;
        }
        calls++;
        Object want = answer(model, method.getName(), method.getParameterTypes(), arguments);
        Object got = answer(real, method.getName(), method.getParameterTypes(), arguments);
        told.add(method.getName() + Arrays.toString(arguments) + " -> " + want);
        if (!got.equals(want)) {
            same = false;
            told.forEach(System.out::println);
        }
        Checks.due("the last call", got, want);
    }

    private void call(String name, Object... arguments) {
        for (Method method : FACE) {
            if (method.getName().equals(name)) {
                call(method, arguments);
            }
        }
    }

    private int below(int bound) {
        return random.nextInt(bound);
    }

    private int pick(int... numbers) {
        return numbers[below(numbers.length)];
    }

    private int anyVertex() {
        return below(40) == 0 ? pick(-1, 6, 7, Integer.MIN_VALUE, Integer.MAX_VALUE) : below(model.count(0));
    }

    private int anyStrategy() {
        int there = model.count(4);
        return below(20) == 0 || there == 0 ? pick(-1, there, 6, Integer.MAX_VALUE) : below(there);
    }

    private int anyPebbles() {
        return below(15) == 0 ? pick(0, -1, 99, 100, Integer.MIN_VALUE, Integer.MAX_VALUE)
                : below(12) == 0 ? 1 + below(99) : 1 + below(4);
    }

    private void callAny() {
        Method method = FACE.get(below(FACE.size()));
        switch (method.getName()) {
            case "append", "truncate", "load" -> text();
            case "errorPosition" -> call(method);
            case "restore", "undo" -> {
                if (below(2) == 0) {
                    call(method);
                }
            }
            case "put", "take" -> call(method, anyVertex(), anyPebbles());
            case "count" -> call(method, pick(-1, 0, 1, 2, 3, 4, 5, 6, Integer.MIN_VALUE));
            case "failing" -> call(method, anyVertex(), below(9) == 0 ? anyPebbles() : below(34));
            case "weigh" -> call(method, anyStrategy(), anyVertex(), anyVertex(),
                    below(12) == 0 ? pick(-1, 65, 64) : pick(0, 1, 1, 2, 2, 3, 4, 4, 8, 16, 32));
            case "dropStrategy" -> {
                if (below(4) == 0) {
                    call(method, anyStrategy());
                }
            }
            case "wrong", "proves" -> call(method, anyStrategy());
            case "weight" -> call(method, anyStrategy(), random.nextBoolean());
            case "strategy" -> call(method, anyStrategy(), anyVertex(), pick(0, 1, 1, 2, 2, -1, 3));
            default -> callWithVertices(method);
        }
    }

    private void callWithVertices(Method method) {
        Object[] arguments = new Object[method.getParameterCount()];
        for (int i = 0; i < arguments.length; i++) {
            arguments[i] = anyVertex();
        }
        call(method, arguments);
    }

    private void type(String text) {
        for (int i = 0; i < text.length(); i += 20) {
            Object[] words = new Object[5];
            for (int w = 0; w < 5; w++) {
                int word = 0;
                for (int k = 0; k < 4; k++) {
                    int at = i + 4 * w + k;
                    word = word << 8 | (at < text.length() ? text.charAt(at) & 255 : 0);
                }
                words[w] = word;
            }
            call("append", words);
        }
    }

    private void text() {
        if (below(3) > 0) {
            return;
        }
        call("truncate", below(12) == 0 ? 100 : 0);
        String text = SetupTexts.valid(random);
        if (below(2) == 0) {
            text = SetupTexts.spoiled(text, random);
        }
        type(text);
        call("errorPosition");
        call("load");
        call("truncate", 0);
    }

    private void run() {
        if (below(4) > 0) {
            call("truncate", 0);
            type(SetupTexts.valid(random));
            call("load");
        }
        for (int i = 0; i < 2 * CALLS; i++) {
            callAny();
        }
    }

    /** Only texts: what is valid, and where the error is. */
    private static void checkTexts(int seed) {
        Random random = new Random(seed);
        Model model = new Model();
        for (int i = 0; i < 40; i++) {
            String text = SetupTexts.valid(random);
            if (i % 4 > 0) {
                text = SetupTexts.spoiled(text, random);
            }
            if (text.length() <= 400) {
                model.truncate(0);
                for (int k = 0; k < text.length(); k++) {
                    model.append(text.charAt(k), 0, 0, 0, 0);
                }
                Checks.due("errorPosition of " + text, Checks.errorIn(text), model.errorPosition());
            }
        }
    }

    public static void main(String[] args) {
        int runs = args.length > 1 ? Integer.parseInt(args[1]) : 300;
        for (int seed = 1; seed <= runs; seed++) {
            ModelTest test = new ModelTest(seed);
            test.run();
            checkTexts(seed);
            if (!test.same) {
                System.out.println("in the run of seed " + seed);
                break;
            }
        }
        Checks.end();
    }
}
