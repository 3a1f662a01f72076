/** Promises 26 to 30: which targets can be reached, and what comes of a pile. */
public final class TargetsTest {
    private static final int[] OUTSIDE = {-1, 3, 6, Integer.MIN_VALUE, Integer.MAX_VALUE};
    private static final String COMPLETE = "vertices 6;edge 0 1 2 3 4 5;edge 0 2 4 0 3 5 0;edge 1 3;edge 2 5 1 4";

    private TargetsTest() {
    }

    /** Promises 26 and 27, told by the set of vertices that are due. */
    private static void reached(String text, int set) {
        PebbleProofs x = Checks.made(text);
        Checks.due("reachable() in " + text, x.reachable(), set);
        for (int v = 0; v < x.count(0); v++) {
            Checks.due("isReachable(" + v + ") in " + text, x.isReachable(v), (set >> v & 1) == 1);
        }
    }

    private static void reachable() {
        PebbleProofs x = new PebbleProofs();
        for (int outside : OUTSIDE) {
            Checks.bounds("isReachable outside", () -> x.isReachable(outside));
        }
        String path = "vertices 6;edge 0 1 2 3 4 5";
        reached(path, 0);
        reached(path + ";pile 0 1", 1);
        reached(path + ";pile 0 2", 3);
        reached(path + ";pile 0 31", 31);
        reached(path + ";pile 0 32", 63);
        reached(path + ";pile 0 30;pile 1 1", 63);
        reached(path + ";pile 0 29;pile 1 1", 31);
        reached(path + ";pile 0 1;pile 2 3;pile 5 1", 63 - 16);
        reached(path + ";pile 0 1;pile 2 3;pile 4 1;pile 5 1", 63);
        reached(path + ";pile 2 2;pile 3 1", 2 + 4 + 8 + 16);
        reached(path + ";pile 0 1;pile 1 1;pile 2 1;pile 3 1;pile 4 1", 31);
        reached(path + ";pile 0 2;pile 1 1;pile 2 1;pile 3 1;pile 4 1", 63);
        // Pebbles of two branches meet; or just do not.
        reached("vertices 4;edge 0 1 2;edge 1 3;pile 0 3;pile 2 3", 15);
        reached("vertices 4;edge 0 1 2;edge 1 3;pile 0 3;pile 2 1", 7);
        reached("vertices 5;edge 0 1 2 3 4 0;pile 1 3;pile 4 1", 1 + 2 + 4 + 16);
        reached("vertices 5;edge 0 1 2 3 4 0;pile 1 3;pile 2 1", 1 + 2 + 4 + 8);
        // Full vertices stop some moves, but no target.
        reached("vertices 3;edge 0 1 2;pile 0 2;pile 1 999", 7);
        reached("vertices 4;edge 0 1 2 3;pile 0 999;pile 1 999;pile 2 999", 15);
        reached("vertices 3;edge 0 1 2;pile 0 999;pile 2 999", 7);
        reached("vertices 1", 0);
        reached("vertices 1;pile 0 1", 1);
        reached(COMPLETE + ";pile 3 1;pile 4 1", 8 + 16);
        reached(COMPLETE + ";pile 3 2;pile 4 1", 63);
    }

    /** Promise 28. */
    private static void next() {
        PebbleProofs x = new PebbleProofs();
        for (int outside : OUTSIDE) {
            Checks.bounds("next outside", () -> x.next(outside));
        }
        Checks.call("next(2)", () -> x.next(2), 1);
        Checks.call("next(1)", () -> x.next(1), 1);
        Checks.noElement("next(0), which has a pebble", () -> x.next(0));
        x.put(1, 1);
        Checks.noElement("next(1), which has one pebble", () -> x.next(1));
        x.undo();
        x.take(0, 1);
        Checks.noElement("next(2), which cannot be reached", () -> x.next(2));
        Checks.due("undoCount()", x.undoCount(), 1);
        Checks.due("reason()", x.reason(), 0);
        // The lowest one is not always of use.
        PebbleProofs y = Checks.made("vertices 4;edge 0 1 3;edge 1 2;pile 1 2");
        Checks.due("next(0)", y.next(0), 10);
        Checks.due("next(2)", y.next(2), 12);
        Checks.due("next(3)", y.next(3), 13);
        y.put(1, 2);
        Checks.due("next(3)", y.next(3), 10);
        // From the lowest vertex, to the lowest one.
        PebbleProofs z = Checks.made("vertices 4;edge 0 1 2 3;edge 0 2;pile 0 2;pile 2 2;pile 1 1");
        Checks.due("next(3)", z.next(3), 1);
        z.take(1, 1);
        Checks.due("next(3)", z.next(3), 1);
        z.take(2, 1);
        Checks.due("next(3)", z.next(3), 2);
        // A move to a full vertex cannot be made.
        PebbleProofs full = Checks.made("vertices 3;edge 0 1 2;pile 0 2;pile 1 999");
        Checks.due("next(2)", full.next(2), 10);
        full.take(1, 1);
        Checks.due("next(2)", full.next(2), 1);
        Checks.noElement("next(0)", () -> Checks.made("vertices 1").next(0));
        Checks.noElement("next(0)", () -> Checks.made("vertices 1;pile 0 2").next(0));
        Checks.due("next(0)", Checks.made("vertices 6;edge 5 4 3 2 1 0;pile 5 32").next(0), 54);
    }

    /** Promise 29. */
    private static void fewest() {
        PebbleProofs x = new PebbleProofs();
        for (int outside : OUTSIDE) {
            Checks.bounds("fewest outside", () -> x.fewest(outside));
        }
        Checks.call("fewest(0)", () -> x.fewest(0), 0);
        Checks.call("fewest(1)", () -> x.fewest(1), 1);
        Checks.call("fewest(2)", () -> x.fewest(2), 3);
        x.put(0, 10);
        Checks.call("fewest(2) with 14 pebbles", () -> x.fewest(2), 3);
        x.put(0, 1);
        Checks.unsupported("fewest(2) with 15 pebbles", () -> x.fewest(2));
        Checks.unsupported("fewest(0) with 15 pebbles", () -> x.fewest(0));
        Checks.bounds("fewest(3) with 15 pebbles", () -> x.fewest(3));
        x.take(0, 12);
        Checks.noElement("fewest(2), which cannot be reached", () -> x.fewest(2));
        Checks.due("reason()", x.reason(), 0);
        PebbleProofs y = Checks.made("vertices 3;edge 0 1 2;pile 0 2;pile 1 2");
        Checks.due("fewest(2)", y.fewest(2), 1);
        y.take(1, 1);
        Checks.due("fewest(2)", y.fewest(2), 2);
        PebbleProofs z = Checks.made("vertices 5;edge 0 1 2 3 4 0;pile 0 1;pile 1 5;pile 4 3");
        Checks.due("fewest(2)", z.fewest(2), 1);
        Checks.due("fewest(3)", z.fewest(3), 1);
        z.take(4, 2);
        Checks.due("fewest(3)", z.fewest(3), 3);
        Checks.noElement("fewest(0)", () -> Checks.made("vertices 1").fewest(0));
        Checks.noElement("fewest(0)", () -> Checks.made("vertices 6;edge 0 1 2 3 4 5;pile 5 14").fewest(0));
        Checks.due("fewest(2)", Checks.made("vertices 6;edge 0 1 2 3 4 5;pile 5 14").fewest(2), 7);
    }

    /** Promise 30. */
    private static void ahead() {
        PebbleProofs x = new PebbleProofs();
        Checks.due("ahead()", x.ahead(), 5);
        x.put(0, 11);
        Checks.due("ahead() with 15 pebbles", x.ahead(), -1);
        x.put(0, 99);
        Checks.due("ahead() with 114 pebbles", x.ahead(), -1);
        Checks.due("ahead()", Checks.made("vertices 1").ahead(), 1);
        Checks.due("ahead()", Checks.made("vertices 1;pile 0 14").ahead(), 1);
        Checks.due("ahead()", Checks.made("vertices 1;pile 0 15").ahead(), -1);
        Checks.due("ahead()", Checks.made("vertices 2;edge 0 1;pile 0 1;pile 1 1").ahead(), 1);
        Checks.due("ahead()", Checks.made("vertices 2;edge 0 1;pile 0 4").ahead(), 4);
        Checks.due("ahead()", Checks.made("vertices 2;edge 0 1;pile 0 2;pile 1 2").ahead(), 4);
        Checks.due("ahead()", Checks.made("vertices 3;edge 0 1 2 0;pile 0 4").ahead(), 9);
        Checks.due("ahead() with 14 pebbles", Checks.made("vertices 2;edge 0 1;pile 0 14").ahead(), 24);
        // The most piles that come of one.
        String most = COMPLETE + ";pile 0 4;pile 1 2;pile 2 2;pile 3 2;pile 4 2;pile 5 2";
        Checks.due("ahead()", Checks.made(most).ahead(), 8102);
        Checks.due("ahead()", Checks.made(COMPLETE + ";pile 0 14").ahead(), 2175);
    }

    /** Promises 29 and 30: the pile is asked for as it is. */
    private static void asItIs() {
        PebbleProofs x = new PebbleProofs();
        Checks.due("ahead()", x.ahead(), 5);
        x.move(0, 1);
        Checks.due("ahead()", x.ahead(), 4);
        Checks.due("fewest(2)", x.fewest(2), 2);
        x.addEdge(0, 2);
        Checks.due("fewest(2)", x.fewest(2), 1);
        x.undo();
        Checks.due("fewest(2)", x.fewest(2), 2);
        x.undo();
        Checks.due("fewest(2)", x.fewest(2), 3);
        Checks.due("next(2)", x.next(2), 1);
    }

    public static void main(String[] args) {
        reachable();
        next();
        fewest();
        ahead();
        asItIs();
        Checks.end();
    }
}
