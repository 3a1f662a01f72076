import java.util.Arrays;
import java.util.Random;

/** Promises 31 to 36: pebbling numbers, worst piles, and the number of a tree by paths. */
public final class WorstPilesTest {
    private static final String COMPLETE = "vertices 6;edge 0 1 2 3 4 5;edge 0 2 4 0 3 5 0;edge 1 3;edge 2 5 1 4";

    private WorstPilesTest() {
    }

    private static int[] worst(PebbleProofs x, int target) {
        int[] pile = new int[x.count(0)];
        for (int v = 0; v < pile.length; v++) {
            pile[v] = x.worst(target, v);
        }
        return pile;
    }

    /** Promises 31, 33 and 34. */
    private static void target(String text, int target, int number, int piles, int... worst) {
        PebbleProofs x = Checks.made(text);
        String call = "(" + target + ") in " + text;
        Checks.due("number" + call, x.number(target), number);
        Checks.due("worstPiles" + call, x.worstPiles(target), piles);
        Checks.due("worst" + call, Arrays.toString(worst(x, target)), Arrays.toString(worst));
        Checks.due("failing" + call, x.failing(target, number - 1), piles);
        Checks.due("failing" + call, x.failing(target, number), 0);
    }

    private static void targets() {
        String path = "vertices 6;edge 0 1 2 3 4 5";
        target(path, 5, 32, 1, 31, 0, 0, 0, 0, 0);
        target(path, 0, 32, 1, 0, 0, 0, 0, 0, 31);
        target(path, 2, 11, 1, 3, 0, 0, 0, 0, 7);
        target(COMPLETE, 0, 6, 1, 0, 1, 1, 1, 1, 1);
        target(COMPLETE, 4, 6, 1, 1, 1, 1, 1, 0, 1);
        // A star: three pebbles on one leaf and one on each of the others.
        String star = "vertices 6;edge 1 0 2;edge 3 0 4;edge 0 5";
        target(star, 5, 7, 4, 0, 1, 1, 1, 3, 0);
        target(star, 1, 7, 4, 0, 0, 1, 1, 1, 3);
        target(star, 0, 6, 1, 0, 1, 1, 1, 1, 1);
        target("vertices 5;edge 0 1 2 3 4 0", 0, 5, 6, 0, 0, 1, 3, 0);
        target("vertices 6;edge 0 1 2 3 4 5 0", 0, 8, 2, 0, 0, 0, 7, 0, 0);
        target("vertices 6;edge 0 1 2 3 4 5 0", 4, 8, 2, 0, 7, 0, 0, 0, 0);
        target("vertices 2;edge 0 1", 0, 2, 1, 0, 1);
        target("vertices 2;edge 0 1", 1, 2, 1, 1, 0);
        target("vertices 1", 0, 1, 1, 0);
        target("vertices 1;pile 0 7", 0, 1, 1, 0);
        target("vertices 4;edge 0 1 2 3 0", 2, 4, 2, 1, 1, 0, 1);
    }

    private static void outside() {
        PebbleProofs x = new PebbleProofs();
        for (int outside : new int[] {-1, 3, 6, Integer.MIN_VALUE, Integer.MAX_VALUE}) {
            Checks.bounds("number outside", () -> x.number(outside));
            Checks.bounds("worst outside", () -> x.worst(outside, 0));
            Checks.bounds("worst outside", () -> x.worst(0, outside));
            Checks.bounds("worstPiles outside", () -> x.worstPiles(outside));
            Checks.bounds("failing outside", () -> x.failing(outside, 0));
            Checks.bounds("failing outside", () -> x.failing(outside, -1));
            Checks.bounds("treeNumber outside", () -> x.treeNumber(outside));
        }
        Checks.due("reason()", x.reason(), 0);
    }

    /** Promise 32. */
    private static void graphNumber() {
        Checks.due("graphNumber()", new PebbleProofs().graphNumber(), 4);
        Checks.due("graphNumber()", Checks.made("vertices 1").graphNumber(), 1);
        Checks.due("graphNumber()", Checks.made(COMPLETE).graphNumber(), 6);
        Checks.due("graphNumber()", Checks.made("vertices 6;edge 0 1 2 3 4 5").graphNumber(), 32);
        Checks.due("graphNumber()", Checks.made("vertices 6;edge 1 0 2;edge 3 0 4;edge 0 5").graphNumber(), 7);
        // The greatest is that of neither the first nor the last vertex.
        PebbleProofs x = Checks.made("vertices 4;edge 1 0 3 2");
        Checks.due("graphNumber()", x.graphNumber(), 8);
        Checks.due("number(0)", x.number(0), 5);
        x.addEdge(1, 2);
        Checks.due("graphNumber()", x.graphNumber(), 4);
        x.addEdge(0, 2);
        Checks.due("graphNumber()", x.graphNumber(), 4);
    }

    /** Promise 35. */
    private static void failing() {
        PebbleProofs x = new PebbleProofs();
        int[] path = {1, 2, 2, 1, 0, 0};
        int[] middle = {1, 2, 1, 0, 0, 0};
        for (int k = 0; k < path.length; k++) {
            Checks.due("failing(2, " + k + ")", x.failing(2, k), path[k]);
            Checks.due("failing(1, " + k + ")", x.failing(1, k), middle[k]);
        }
        Checks.due("failing(2, 99)", x.failing(2, 99), 0);
        for (int pebbles : new int[] {-1, 100, Integer.MIN_VALUE, Integer.MAX_VALUE}) {
            Checks.argument("failing(2, " + pebbles + ")", () -> x.failing(2, pebbles));
        }
        PebbleProofs complete = Checks.made(COMPLETE);
        int[] choices = {1, 5, 10, 10, 5, 1, 0};
        for (int k = 0; k < choices.length; k++) {
            Checks.due("failing(3, " + k + ")", complete.failing(3, k), choices[k]);
        }
        // An end of a long path has the most failing piles.
        PebbleProofs longest = Checks.made("vertices 6;edge 0 1 2 3 4 5");
        int all = 0;
        for (int k = 0; k < 100; k++) {
            all += longest.failing(5, k);
        }
        Checks.due("failing piles of an end of a path", all, 1626);
        PebbleProofs one = Checks.made("vertices 1");
        Checks.due("failing(0, 0)", one.failing(0, 0), 1);
        Checks.due("failing(0, 1)", one.failing(0, 1), 0);
    }

    /** Promise 36. */
    private static void treeNumber() {
        PebbleProofs x = new PebbleProofs();
        Checks.due("treeNumber(0)", x.treeNumber(0), 4);
        Checks.due("treeNumber(1)", x.treeNumber(1), 3);
        x.addEdge(0, 2);
        Checks.unsupported("treeNumber(0)", () -> x.treeNumber(0));
        Checks.bounds("treeNumber(3)", () -> x.treeNumber(3));
        x.removeEdge(1, 2);
        Checks.due("treeNumber(2)", x.treeNumber(2), 4);
        Checks.due("treeNumber(0)", x.treeNumber(0), 3);
        Checks.due("treeNumber(0) of one vertex", Checks.made("vertices 1").treeNumber(0), 1);
        Checks.due("treeNumber(1) of two", Checks.made("vertices 2;edge 0 1").treeNumber(1), 2);
        PebbleProofs path = Checks.made("vertices 6;edge 0 1 2 3 4 5");
        int[] due = {32, 17, 11, 11, 17, 32};
        for (int v = 0; v < 6; v++) {
            Checks.due("treeNumber(" + v + ")", path.treeNumber(v), due[v]);
        }
        // Paths of 3, 1 and 1 edges.
        PebbleProofs tree = Checks.made("vertices 6;edge 0 1 2 3;edge 1 4;edge 2 5");
        Checks.due("treeNumber(0)", tree.treeNumber(0), 10);
        Checks.due("treeNumber(1)", tree.treeNumber(1), 4 + 2 + 2 + 2 - 3);
        // A ring has as many edges as vertices; a star with a ring too.
        Checks.unsupported("treeNumber(0)", () -> Checks.made("vertices 4;edge 0 1 2 3 0").treeNumber(0));
        Checks.unsupported("treeNumber(3)", () -> Checks.made("vertices 4;edge 0 1 2 0 3").treeNumber(3));
    }

    /** Promises 31 and 36: the same in each tree. */
    private static void trees() {
        Random random = new Random(7);
        for (int i = 0; i < 200; i++) {
            int n = 1 + random.nextInt(6);
            StringBuilder text = new StringBuilder("vertices " + n);
            for (int v = 1; v < n; v++) {
                text.append(";edge ").append(v).append(' ').append(random.nextInt(v));
            }
            PebbleProofs x = Checks.made(text.toString());
            for (int v = 0; v < n; v++) {
                Checks.due("number(" + v + ") in " + text, x.number(v), x.treeNumber(v));
            }
        }
    }

    private static String told(PebbleProofs x, int target) {
        StringBuilder all = new StringBuilder("reached " + x.reachable() + ", greatest " + x.graphNumber());
        all.append("; ").append(x.number(target)).append(' ').append(x.worstPiles(target));
        all.append(Arrays.toString(worst(x, target)));
        for (int k = 0; k < 33; k += 2) {
            all.append(' ').append(x.failing(target, k));
        }
        return all.toString();
    }

    private static void comeAndGo(PebbleProofs x, Random random) {
        int n = x.count(0);
        for (int i = 0; i < 5; i++) {
            int v = random.nextInt(n);
            int w = random.nextInt(n);
            Checks.answer(() -> x.isEdge(v, w) ? x.removeEdge(v, w) : x.addEdge(v, w));
            int p = random.nextInt(n);
            Checks.answer(() -> x.pebbles(p) > 2 ? x.take(p, 3) : x.put(p, 1));
            int target = random.nextInt(n);
            String text = Checks.text(x);
            Checks.due("told of " + target + " in " + text, told(x, target), told(Checks.made(text), target));
        }
    }

    /** Promises 26, 27, 31 to 35: while edges come and go, the same as of a new object. */
    private static void edgesComeAndGo() {
        Random random = new Random(3);
        for (int n = 3; n <= 6; n++) {
            String text = Checks.path(n);
            for (int i = 0; i < 60; i++) {
                PebbleProofs x = Checks.made(text);
                comeAndGo(x, random);
                text = Checks.text(x);
            }
        }
    }

    public static void main(String[] args) {
        edgesComeAndGo();
        targets();
        outside();
        graphNumber();
        failing();
        treeNumber();
        trees();
        Checks.end();
    }
}
