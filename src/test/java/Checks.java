import java.nio.charset.StandardCharsets;
import java.util.concurrent.Callable;

/** What the tests share: counting wrong answers, and objects made of a setup text. */
final class Checks {
    private static int checked = 0;
    private static int wrong = 0;
    private static String heading = "";

    private Checks() {
    }

    static void due(String call, Object got, Object want) {
        checked++;
        if (!got.equals(want)) {
            wrong++;
            System.out.println(heading + call + " answered " + got + ", due is " + want);
        }
    }

    /** What stands before each wrong answer from now on. */
    static void heading(String text) {
        heading = text + "\n    ";
    }

    /** What a call answers: its value, or the simple name of the exception that it throws. */
    static Object answer(Callable<?> call) {
        try {
            return call.call();
        } catch (Exception e) {
            return e.getClass().getSimpleName();
        }
    }

    static void call(String call, Callable<?> what, Object want) {
        due(call, answer(what), want);
    }

    static void bounds(String call, Callable<?> what) {
        call(call, what, "IndexOutOfBoundsException");
    }

    static void argument(String call, Callable<?> what) {
        call(call, what, "IllegalArgumentException");
    }

    static void state(String call, Callable<?> what) {
        call(call, what, "IllegalStateException");
    }

    static void unsupported(String call, Callable<?> what) {
        call(call, what, "UnsupportedOperationException");
    }

    static void noElement(String call, Callable<?> what) {
        call(call, what, "NoSuchElementException");
    }

    /** A refused change, and the reason that is told then. */
    static void refused(String call, PebbleProofs x, Callable<?> what, int reason) {
        state(call, what);
        due("reason() behind " + call, x.reason(), reason);
    }

    /** A call with the number of a vertex, or of a strategy. */
    interface Numbered {
        Object of(PebbleProofs x, int number);
    }

    private static int[] outside(int many) {
        return new int[] {-1, many, many + 1, 6, 7, 64, 256, Integer.MIN_VALUE, Integer.MAX_VALUE};
    }

    private static void numbers(String call, String text, int many, Numbered what) {
        for (int number : outside(many)) {
            if (number < 0 || number >= many) {
                PebbleProofs x = made(text);
                bounds(call + " with " + number + " of " + many, () -> what.of(x, number));
            }
        }
        for (int number = 0; number < many; number++) {
            int inside = number;
            PebbleProofs x = made(text);
            Object got = answer(() -> what.of(x, inside));
            due(call + " with " + number + " of " + many, got.equals("IndexOutOfBoundsException"), false);
        }
    }

    /** With 1 to 6 vertices, those that exist are taken and no others. */
    static void vertices(String call, Numbered what) {
        for (int n = 1; n <= 6; n++) {
            numbers(call, path(n) + ";strategy 0;pile 0 3", n, what);
        }
    }

    /** With 0 to 6 strategies, those that exist are taken and no others. */
    static void strategies(String call, Numbered what) {
        for (int many = 0; many <= 6; many++) {
            numbers(call, path(3) + ";strategy 0".repeat(many), many, what);
        }
    }

    /** Appends a text, twenty bytes a call. */
    static int type(PebbleProofs x, String text) {
        byte[] bytes = text.getBytes(StandardCharsets.ISO_8859_1);
        int length = x.append(0, 0, 0, 0, 0);
        for (int i = 0; i < bytes.length; i += 20) {
            int[] words = new int[5];
            for (int k = 0; k < 20 && i + k < bytes.length; k++) {
                words[k / 4] |= (bytes[i + k] & 255) << (24 - 8 * (k % 4));
            }
            length = x.append(words[0], words[1], words[2], words[3], words[4]);
        }
        return length;
    }

    /** A new object with a text in its input buffer. */
    static PebbleProofs typed(String text) {
        PebbleProofs x = new PebbleProofs();
        type(x, text);
        return x;
    }

    /** The length of the input buffer. */
    static int length(PebbleProofs x) {
        return x.append(0, 0, 0, 0, 0);
    }

    static PebbleProofs made(String text) {
        PebbleProofs x = new PebbleProofs();
        x.truncate(0);
        type(x, text);
        x.load();
        return x;
    }

    static int errorIn(String text) {
        return typed(text).errorPosition();
    }

    /** The setup text of a path of all vertices. */
    static String path(int vertices) {
        StringBuilder text = new StringBuilder("vertices " + vertices);
        for (int v = 0; v < vertices && vertices > 1; v++) {
            text.append(v == 0 ? ";edge 0" : " " + v);
        }
        return text.toString();
    }

    /** The setup text of the graph and the pile of an object. */
    static String text(PebbleProofs x) {
        int n = x.count(0);
        StringBuilder all = new StringBuilder("vertices " + n);
        for (int v = 0; v < n; v++) {
            all.append(";pile ").append(v).append(' ').append(x.pebbles(v));
            for (int w = 0; w < v; w++) {
                if (x.isEdge(v, w)) {
                    all.append(";edge ").append(v).append(' ').append(w);
                }
            }
        }
        return all.toString();
    }

    /** Everything that a call can ask without changing, as one text. */
    static String view(PebbleProofs x) {
        StringBuilder all = new StringBuilder();
        for (int what = 0; what < 6; what++) {
            all.append(x.count(what)).append(' ');
        }
        int vertices = x.count(0);
        for (int v = 0; v < vertices; v++) {
            all.append("; ").append(x.pebbles(v)).append(" near");
            for (int w = 0; w < vertices; w++) {
                all.append(' ').append(x.isEdge(v, w) ? 1 : 0);
            }
        }
        for (int s = 0; s < x.count(4); s++) {
            all.append("; strategy for ").append(x.strategy(s, 0, 0));
            for (int v = 0; v < vertices; v++) {
                all.append(' ').append(x.strategy(s, v, 1)).append('/').append(x.strategy(s, v, 2));
            }
        }
        return all.toString();
    }

    static void end() {
        if (wrong == 0) {
            System.out.println("all " + checked + " answers are as due");
        } else {
            System.out.println(wrong + " of " + checked + " answers are not as due");
            System.exit(1);
        }
    }
}
