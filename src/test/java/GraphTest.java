/** Promises 20 to 25: what is asked of the graph and of the pile. */
public final class GraphTest {
    private static final int[] OUTSIDE = {-1, 4, 6, Integer.MIN_VALUE, Integer.MAX_VALUE};

    private GraphTest() {
    }

    /** Promise 20. */
    private static void count() {
        PebbleProofs x = Checks.made("vertices 6;edge 0 1 2 3 0;edge 3 4 5;pile 2 999;pile 5 1;strategy 1;strategy 2");
        int[] due = {6, 6, 1000, 0, 2, 4};
        for (int what = 0; what < 6; what++) {
            int number = what;
            Checks.call("count(" + what + ")", () -> x.count(number), due[what]);
        }
        for (int what : new int[] {-1, 6, 7, Integer.MIN_VALUE, Integer.MAX_VALUE}) {
            Checks.argument("count(" + what + ")", () -> x.count(what));
        }
        x.move(2, 1);
        x.reach(4);
        Checks.due("count(2)", x.count(2), 1000 - x.count(3));
        int made = x.count(3);
        x.put(2, 8);
        x.save();
        x.move(2, 1);
        Checks.due("count(3)", x.count(3), made + 1);
        x.undo();
        Checks.due("count(3) after undo()", x.count(3), made);
        x.move(2, 3);
        x.move(2, 3);
        x.restore();
        Checks.due("count(3) after restore()", x.count(3), made);

        PebbleProofs full = new PebbleProofs();
        StringBuilder text = new StringBuilder("vertices 6;edge 0 1 2 3 4 5");
        for (int v = 0; v < 6; v++) {
            text.append(";pile ").append(v).append(" 999");
        }
        full.truncate(0);
        Checks.type(full, text.toString());
        full.load();
        Checks.due("count(2)", full.count(2), 5994);
        Checks.due("count(5)", full.count(5), 5);
        PebbleProofs one = Checks.made("vertices 1");
        int[] none = {1, 0, 0, 0, 0, 0};
        for (int what = 0; what < 6; what++) {
            Checks.due("count(" + what + ") of one vertex", one.count(what), none[what]);
        }
        Checks.due("the diameter of a ring", Checks.made("vertices 6;edge 0 1 2 3 4 5 0").count(5), 3);
    }

    /** Promises 21 and 22. */
    private static void pairs() {
        PebbleProofs x = Checks.made("vertices 4;edge 3 0 2;edge 1 2");
        int[][] far = {{0, 2, 1, 1}, {2, 0, 1, 3}, {1, 1, 0, 2}, {1, 3, 2, 0}};
        for (int v = 0; v < 4; v++) {
            for (int w = 0; w < 4; w++) {
                Checks.due("isEdge(" + v + ", " + w + ")", x.isEdge(v, w), far[v][w] == 1);
                Checks.due("distance(" + v + ", " + w + ")", x.distance(v, w), far[v][w]);
            }
        }
        for (int outside : OUTSIDE) {
            Checks.bounds("isEdge outside", () -> x.isEdge(outside, 0));
            Checks.bounds("isEdge outside", () -> x.isEdge(0, outside));
            Checks.bounds("distance outside", () -> x.distance(outside, 0));
            Checks.bounds("distance outside", () -> x.distance(0, outside));
        }
        x.addEdge(3, 1);
        Checks.due("distance(3, 1)", x.distance(3, 1), 1);
        x.removeEdge(0, 3);
        Checks.due("distance(3, 0)", x.distance(3, 0), 3);
        PebbleProofs path = Checks.made("vertices 6;edge 0 1 2 3 4 5");
        Checks.due("distance(0, 5)", path.distance(0, 5), 5);
        Checks.due("distance(5, 1)", path.distance(5, 1), 4);
    }

    /** Promise 23. */
    private static void farthest() {
        PebbleProofs x = Checks.made("vertices 4;edge 3 0 2;edge 1 2");
        int[] due = {1, 3, 3, 1};
        for (int v = 0; v < 4; v++) {
            Checks.due("farthest(" + v + ")", x.farthest(v), due[v]);
        }
        for (int outside : OUTSIDE) {
            Checks.bounds("farthest outside", () -> x.farthest(outside));
        }
        // The lowest number among several.
        PebbleProofs ring = Checks.made("vertices 5;edge 0 1 2 3 4 0");
        int[] onRing = {2, 3, 0, 0, 1};
        for (int v = 0; v < 5; v++) {
            Checks.due("farthest(" + v + ") on a ring", ring.farthest(v), onRing[v]);
        }
        Checks.due("farthest(0) of one vertex", Checks.made("vertices 1").farthest(0), 0);
        Checks.due("farthest(0) of two", Checks.made("vertices 2;edge 0 1").farthest(0), 1);
        Checks.due("farthest(1) of two", Checks.made("vertices 2;edge 0 1").farthest(1), 0);
    }

    /** Promises 24 and 25. */
    private static void piles() {
        PebbleProofs x = Checks.made("vertices 4;edge 3 0 2;edge 1 2 3;pile 0 999;pile 1 1;pile 2 2;pile 3 998");
        int[] due = {999, 1, 2, 998};
        for (int v = 0; v < 4; v++) {
            Checks.due("pebbles(" + v + ")", x.pebbles(v), due[v]);
        }
        int[] moves = {2, 0, 2, 1};
        for (int v = 0; v < 4; v++) {
            Checks.due("moves(" + v + ")", x.moves(v), moves[v]);
        }
        for (int outside : OUTSIDE) {
            Checks.bounds("pebbles outside", () -> x.pebbles(outside));
            Checks.bounds("moves outside", () -> x.moves(outside));
        }
        x.put(3, 1);
        Checks.due("moves(2) beside full vertices", x.moves(2), 1);
        x.take(0, 1);
        Checks.due("moves(2)", x.moves(2), 2);
        x.take(2, 1);
        Checks.due("moves(2) with a pebble", x.moves(2), 0);
        x.take(2, 1);
        Checks.due("moves(2) without pebbles", x.moves(2), 0);
        x.addEdge(0, 1);
        Checks.due("moves(0)", x.moves(0), 2);
        PebbleProofs path = Checks.made("vertices 6;edge 0 1 2 3 4 5;pile 0 2;pile 1 2;pile 4 3;pile 5 9");
        int[] onPath = {1, 2, 0, 0, 2, 1};
        PebbleProofs ring = Checks.made("vertices 6;edge 1 3 0 2 4 5 1;edge 0 5;pile 0 2;pile 1 2;pile 4 3;pile 5 9");
        int[] onRing = {3, 2, 0, 0, 2, 3};
        for (int v = 0; v < 6; v++) {
            int vertex = v;
            Checks.call("moves(" + v + ") of six", () -> path.moves(vertex), onPath[v]);
            Checks.call("moves(" + v + ") of six", () -> ring.moves(vertex), onRing[v]);
        }
        Checks.due("moves(0) of one vertex", Checks.made("vertices 1;pile 0 9").moves(0), 0);
        Checks.due("the last one counts", Checks.made("vertices 1;pile 0 9;pile 0 3").pebbles(0), 3);
    }

    public static void main(String[] args) {
        count();
        pairs();
        farthest();
        piles();
        Checks.end();
    }
}
