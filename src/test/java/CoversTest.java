/** Promises 42 to 45: covers of all vertices. */
public final class CoversTest {
    private CoversTest() {
    }

    /** Promises 42 and 43. */
    private static void stacks(String text, int... due) {
        PebbleProofs x = Checks.made(text);
        int greatest = 0;
        for (int v = 0; v < due.length; v++) {
            Checks.due("stack(" + v + ") in " + text, x.stack(v), due[v]);
            greatest = Math.max(greatest, due[v]);
        }
        Checks.due("coverNumber() in " + text, x.coverNumber(), greatest);
    }

    private static void stack() {
        PebbleProofs x = new PebbleProofs();
        for (int outside : new int[] {-1, 3, 6, Integer.MIN_VALUE, Integer.MAX_VALUE}) {
            Checks.bounds("stack outside", () -> x.stack(outside));
        }
        stacks("vertices 1", 1);
        stacks("vertices 2;edge 0 1;pile 0 9", 3, 3);
        stacks("vertices 3;edge 0 1 2", 7, 5, 7);
        stacks("vertices 6;edge 0 1 2 3 4 5", 63, 33, 21, 21, 33, 63);
        stacks("vertices 6;edge 0 1 2 3 4 5 0", 21, 21, 21, 21, 21, 21);
        stacks("vertices 4;edge 2 0 3 1", 9, 15, 15, 9);
        stacks("vertices 5;edge 0 1 2 0 3;edge 2 4", 11, 13, 11, 19, 19);
        x.addEdge(0, 2);
        Checks.due("stack(0)", x.stack(0), 5);
        x.undo();
        Checks.due("stack(0)", x.stack(0), 7);
    }

    /** Promises 44 and 45. */
    private static void cover(String text, int lacking) {
        PebbleProofs x = Checks.made(text);
        Checks.call("lacking() in " + text, () -> x.lacking(), lacking);
        Checks.call("canCover() in " + text, () -> x.canCover(), lacking == 0);
    }

    private static void covers() {
        cover("vertices 1", 1);
        cover("vertices 1;pile 0 1", 0);
        cover("vertices 1;pile 0 14", 0);
        cover("vertices 2;edge 0 1;pile 0 2", 1);
        cover("vertices 2;edge 0 1;pile 0 3", 0);
        cover("vertices 2;edge 0 1;pile 0 1;pile 1 1", 0);
        cover("vertices 3;edge 0 1 2", 3);
        cover("vertices 3;edge 0 1 2;pile 0 6", 1);
        cover("vertices 3;edge 0 1 2;pile 0 7", 0);
        cover("vertices 3;edge 0 1 2;pile 1 4", 1);
        cover("vertices 3;edge 0 1 2;pile 1 5", 0);
        cover("vertices 3;edge 0 1 2;pile 0 2;pile 2 1", 1);
        cover("vertices 3;edge 0 1 2;pile 0 3;pile 2 1", 0);
        cover("vertices 6;edge 0 1 2 3 4 5;pile 0 14", 3);
        cover("vertices 6;edge 0 1 2 3 4 5;pile 2 14", 1);
        cover("vertices 6;edge 0 1 2 3 4 5;pile 2 7;pile 3 7", 0);
        cover("vertices 6;edge 0 1 2 3 4 5;pile 2 7;pile 3 6", 1);
        cover("vertices 6;edge 0 1 2 3 4 5;pile 1 7;pile 4 7", 0);
        cover("vertices 4;edge 0 1 2 3;edge 0 2;pile 1 1;pile 3 1", 2);
        PebbleProofs x = Checks.made("vertices 2;edge 0 1;pile 0 14");
        Checks.due("canCover() with 14 pebbles", x.canCover(), true);
        x.put(1, 1);
        Checks.unsupported("canCover() with 15 pebbles", () -> x.canCover());
        Checks.unsupported("lacking() with 15 pebbles", () -> x.lacking());
        x.move(0, 1);
        Checks.due("canCover() with 14 pebbles", x.canCover(), true);
        Checks.due("lacking() with 14 pebbles", x.lacking(), 0);
        Checks.due("reason()", x.reason(), 0);
        // The pile is asked for as it is.
        PebbleProofs y = new PebbleProofs();
        Checks.due("lacking()", y.lacking(), 1);
        y.put(0, 3);
        Checks.due("lacking()", y.lacking(), 0);
        y.undo();
        Checks.due("canCover()", y.canCover(), false);
        y.addEdge(0, 2);
        y.put(0, 1);
        Checks.due("canCover()", y.canCover(), true);
    }

    public static void main(String[] args) {
        stack();
        covers();
        Checks.end();
    }
}
