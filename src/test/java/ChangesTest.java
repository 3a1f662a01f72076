/** Promises 6 to 14: the changes and their refusals. */
public final class ChangesTest {
    private static final int LEAST = Integer.MIN_VALUE;
    private static final int GREATEST = Integer.MAX_VALUE;

    private ChangesTest() {
    }

    private interface OnePair {
        int call(int vertex, int other);
    }

    private static void pairsOutside(String name, OnePair what) {
        for (int outside : new int[] {-1, 3, 6, LEAST, GREATEST}) {
            Checks.bounds(name, () -> what.call(outside, 0));
            Checks.bounds(name, () -> what.call(0, outside));
            Checks.bounds(name, () -> what.call(outside, outside));
        }
    }

    /** Promise 6. */
    private static void addEdge() {
        PebbleProofs x = new PebbleProofs();
        String before = Checks.view(x);
        pairsOutside("addEdge outside", x::addEdge);
        Checks.argument("addEdge(1, 1)", () -> x.addEdge(1, 1));
        Checks.due("reason()", x.reason(), 0);
        Checks.state("addEdge(0, 1)", () -> x.addEdge(0, 1));
        Checks.due("reason()", x.reason(), 1);
        Checks.state("addEdge(2, 1)", () -> x.addEdge(2, 1));
        Checks.due("nothing changed", Checks.view(x), before);
        Checks.due("undoCount()", x.undoCount(), 0);
        Checks.due("addEdge(2, 0)", x.addEdge(2, 0), 3);
        Checks.due("isEdge(0, 2)", x.isEdge(0, 2), true);
        Checks.due("isEdge(2, 0)", x.isEdge(2, 0), true);
        Checks.due("distance(0, 2)", x.distance(0, 2), 1);
        Checks.due("undoCount()", x.undoCount(), 1);
        Checks.due("reason()", x.reason(), 1);
        Checks.state("addEdge(0, 2)", () -> x.addEdge(0, 2));
    }

    /** Promise 7. */
    private static void removeEdge() {
        PebbleProofs x = Checks.made("vertices 4;edge 0 1 2 0;edge 2 3");
        for (int outside : new int[] {-1, 4, LEAST, GREATEST}) {
            Checks.bounds("removeEdge outside", () -> x.removeEdge(outside, 0));
            Checks.bounds("removeEdge outside", () -> x.removeEdge(0, outside));
        }
        Checks.argument("removeEdge(2, 2)", () -> x.removeEdge(2, 2));
        Checks.state("removeEdge(2, 3)", () -> x.removeEdge(2, 3));
        Checks.due("reason()", x.reason(), 3);
        Checks.state("removeEdge(0, 3)", () -> x.removeEdge(0, 3));
        Checks.due("reason()", x.reason(), 2);
        Checks.due("count(1)", x.count(1), 4);
        Checks.due("undoCount()", x.undoCount(), 0);
        Checks.due("removeEdge(2, 0)", x.removeEdge(2, 0), 3);
        Checks.due("isEdge(0, 2)", x.isEdge(0, 2), false);
        Checks.due("isEdge(2, 0)", x.isEdge(2, 0), false);
        Checks.due("distance(0, 3)", x.distance(0, 3), 3);
        Checks.due("undoCount()", x.undoCount(), 1);
        Checks.state("removeEdge(0, 1)", () -> x.removeEdge(0, 1));
        Checks.due("reason()", x.reason(), 3);
        Checks.state("removeEdge(1, 2)", () -> x.removeEdge(1, 2));
        Checks.due("count(1)", x.count(1), 3);
        // Two halves, neither of which is a vertex alone.
        PebbleProofs y = Checks.made("vertices 6;edge 0 1 2 0;edge 3 4 5 3;edge 2 3");
        Checks.state("removeEdge(2, 3)", () -> y.removeEdge(2, 3));
        Checks.due("reason()", y.reason(), 3);
        Checks.due("addEdge(0, 5)", y.addEdge(0, 5), 8);
        Checks.due("removeEdge(3, 2)", y.removeEdge(3, 2), 7);
        Checks.due("distance(2, 3)", y.distance(2, 3), 3);
        Checks.due("count(5)", y.count(5), 3);
    }

    /** Promise 8. */
    private static void put() {
        PebbleProofs x = new PebbleProofs();
        for (int outside : new int[] {-1, 3, 6, LEAST, GREATEST}) {
            Checks.bounds("put outside", () -> x.put(outside, 1));
            Checks.bounds("put outside", () -> x.put(outside, 0));
        }
        for (int pebbles : new int[] {0, -1, 100, LEAST, GREATEST}) {
            Checks.argument("put(0, " + pebbles + ")", () -> x.put(0, pebbles));
        }
        Checks.due("put(0, 1)", x.put(0, 1), 5);
        Checks.due("put(2, 99)", x.put(2, 99), 99);
        Checks.due("pebbles(2)", x.pebbles(2), 99);
        Checks.due("count(2)", x.count(2), 104);
        Checks.due("undoCount()", x.undoCount(), 2);
        PebbleProofs y = Checks.made("vertices 2;edge 0 1;pile 1 950");
        Checks.argument("put(1, 50)", () -> y.put(1, 50));
        Checks.due("pebbles(1)", y.pebbles(1), 950);
        Checks.due("put(1, 49)", y.put(1, 49), 999);
        Checks.argument("put(1, 1)", () -> y.put(1, 1));
        Checks.argument("put(1, 99)", () -> y.put(1, 99));
        Checks.due("put(0, 99)", y.put(0, 99), 99);
        Checks.due("no refusal", y.reason(), 0);
        Checks.due("undoCount()", y.undoCount(), 2);
    }

    /** Promise 9. */
    private static void take() {
        PebbleProofs x = Checks.made("vertices 3;edge 0 1 2;pile 0 4;pile 2 150");
        for (int outside : new int[] {-1, 3, LEAST, GREATEST}) {
            Checks.bounds("take outside", () -> x.take(outside, 1));
            Checks.bounds("take outside", () -> x.take(outside, 100));
        }
        for (int pebbles : new int[] {0, -1, 100, LEAST, GREATEST}) {
            Checks.argument("take(0, " + pebbles + ")", () -> x.take(0, pebbles));
        }
        Checks.due("reason()", x.reason(), 0);
        Checks.state("take(0, 5)", () -> x.take(0, 5));
        Checks.due("reason()", x.reason(), 5);
        Checks.state("take(1, 1)", () -> x.take(1, 1));
        Checks.due("undoCount()", x.undoCount(), 0);
        Checks.due("take(0, 3)", x.take(0, 3), 1);
        Checks.due("take(0, 1)", x.take(0, 1), 0);
        Checks.due("take(2, 99)", x.take(2, 99), 51);
        Checks.state("take(2, 99)", () -> x.take(2, 99));
        Checks.due("pebbles(2)", x.pebbles(2), 51);
        Checks.due("pebbles(0)", x.pebbles(0), 0);
        Checks.due("undoCount()", x.undoCount(), 3);
        Checks.due("count(3)", x.count(3), 0);
    }

    /** Promise 10. */
    private static void move() {
        PebbleProofs x = Checks.made("vertices 3;edge 0 1 2;pile 0 5;pile 1 1;pile 2 999");
        pairsOutside("move outside", x::move);
        Checks.state("move(0, 2)", () -> x.move(0, 2));
        Checks.due("reason()", x.reason(), 4);
        Checks.state("move(1, 2)", () -> x.move(1, 2));
        Checks.due("too few, and full", x.reason(), 5);
        Checks.state("move(0, 0)", () -> x.move(0, 0));
        Checks.due("the same vertex", x.reason(), 4);
        Checks.state("move(1, 1)", () -> x.move(1, 1));
        Checks.due("the same vertex, too few", x.reason(), 4);
        Checks.due("move(0, 1)", x.move(0, 1), 2);
        Checks.due("pebbles(0)", x.pebbles(0), 3);
        Checks.state("move(1, 2)", () -> x.move(1, 2));
        Checks.due("full", x.reason(), 6);
        Checks.state("move(2, 0)", () -> x.move(2, 0));
        Checks.due("no neighbours", x.reason(), 4);
        Checks.due("move(2, 1)", x.move(2, 1), 3);
        Checks.due("pebbles(2)", x.pebbles(2), 997);
        Checks.due("move(1, 2)", x.move(1, 2), 998);
        Checks.due("count(3)", x.count(3), 3);
        Checks.due("undoCount()", x.undoCount(), 3);
        Checks.due("move(0, 1)", x.move(0, 1), 2);
        Checks.due("move(1, 2)", x.move(1, 2), 999);
        Checks.due("pebbles(1)", x.pebbles(1), 0);
        Checks.due("count(2)", x.count(2), 1000);
    }

    /** Promise 11. */
    private static void reach() {
        PebbleProofs x = Checks.made("vertices 3;edge 0 1 2;pile 0 2;pile 1 2");
        for (int outside : new int[] {-1, 3, LEAST, GREATEST}) {
            Checks.bounds("reach outside", () -> x.reach(outside));
        }
        // By the moves of next(), 0 to 1 and 1 to 2, although one would do.
        Checks.due("fewest(2)", x.fewest(2), 1);
        Checks.due("reach(2)", x.reach(2), 2);
        Checks.due("pebbles(0)", x.pebbles(0), 0);
        Checks.due("pebbles(1)", x.pebbles(1), 1);
        Checks.due("pebbles(2)", x.pebbles(2), 1);
        Checks.due("count(3)", x.count(3), 2);
        Checks.due("undoCount()", x.undoCount(), 1);
        Checks.due("reach(2) again", x.reach(2), 0);
        Checks.due("count(3)", x.count(3), 2);
        Checks.due("undoCount()", x.undoCount(), 2);
        String before = Checks.view(x);
        Checks.state("reach(0)", () -> x.reach(0));
        Checks.due("reason()", x.reason(), 6);
        Checks.due("nothing changed", Checks.view(x), before);
        Checks.due("undoCount()", x.undoCount(), 2);
        x.undo();
        Checks.due("undo() of a change without effect", Checks.view(x), before);
        x.undo();
        Checks.due("count(3)", x.count(3), 0);
        Checks.due("pebbles(0)", x.pebbles(0), 2);
        PebbleProofs y = Checks.made("vertices 1;pile 0 3");
        Checks.due("reach(0)", y.reach(0), 0);
        Checks.due("undoCount()", y.undoCount(), 1);
    }

    /** Promise 11: each pile is as next() and move() leave it, also with 999 pebbles on vertices. */
    private static void reachByMoves(String text, int target) {
        PebbleProofs x = Checks.made(text);
        PebbleProofs y = Checks.made(text);
        int made = 0;
        while (y.pebbles(target) == 0) {
            int step = y.next(target);
            y.move(step / 10, step % 10);
            made++;
            // An object is used for at most 512 calls.
            y = made % 100 == 0 ? Checks.made(Checks.text(y)) : y;
        }
        Checks.due("reach() in " + text, x.reach(target), made);
        Checks.due("moves of reach() in " + text, x.count(3), made);
        Checks.due("reach() in " + text, Checks.text(x), Checks.text(y));
        Checks.due("undo()", x.undo(), 0);
        Checks.due("undo() of reach()", Checks.view(x), Checks.view(Checks.made(text)));
    }

    /** Promise 12. */
    private static void addStrategy() {
        PebbleProofs x = new PebbleProofs();
        for (int outside : new int[] {-1, 3, LEAST, GREATEST}) {
            Checks.bounds("addStrategy outside", () -> x.addStrategy(outside));
        }
        for (int i = 0; i < 6; i++) {
            Checks.due("addStrategy", x.addStrategy(i % 3), i);
            Checks.due("count(4)", x.count(4), i + 1);
            Checks.due("target", x.strategy(i, 0, 0), i % 3);
            x.weigh(i, (i + 1) % 3, i % 3, 5 + i);
        }
        String before = Checks.view(x);
        Checks.state("addStrategy(0)", () -> x.addStrategy(0));
        Checks.due("reason()", x.reason(), 7);
        Checks.bounds("addStrategy(3)", () -> x.addStrategy(3));
        Checks.due("nothing changed", Checks.view(x), before);
        x.dropStrategy(5);
        Checks.due("addStrategy(1)", x.addStrategy(1), 5);
        // What was there before is gone.
        for (int v = 0; v < 3; v++) {
            Checks.due("weight", x.strategy(5, v, 1), 0);
            Checks.due("parent", x.strategy(5, v, 2), -1);
        }
    }

    /** Promise 13. */
    private static void weigh() {
        PebbleProofs x = new PebbleProofs();
        Checks.bounds("weigh without strategies", () -> x.weigh(0, 0, 1, 1));
        x.addStrategy(2);
        x.addStrategy(1);
        for (int outside : new int[] {-1, 3, 6, LEAST, GREATEST}) {
            Checks.bounds("weigh of a strategy", () -> x.weigh(outside, 0, 1, 1));
            Checks.bounds("weigh of a vertex", () -> x.weigh(0, outside, 1, 1));
            Checks.bounds("weigh with a parent", () -> x.weigh(0, 0, outside, 65));
        }
        Checks.bounds("weigh(2, 0, 1, 1)", () -> x.weigh(2, 0, 1, 1));
        for (int weight : new int[] {-1, 65, LEAST, GREATEST}) {
            Checks.argument("weigh(0, 0, 1, " + weight + ")", () -> x.weigh(0, 0, 1, weight));
        }
        Checks.argument("weigh of the target", () -> x.weigh(0, 2, 1, 1));
        Checks.argument("weigh of the target", () -> x.weigh(1, 1, 0, 0));
        Checks.due("undoCount()", x.undoCount(), 2);
        Checks.due("weigh(0, 0, 1, 64)", x.weigh(0, 0, 1, 64), 0);
        Checks.due("weigh(0, 1, 1, 7)", x.weigh(0, 1, 1, 7), 0);
        Checks.due("weigh(0, 0, 2, 3)", x.weigh(0, 0, 2, 3), 64);
        Checks.due("weigh(0, 0, 1, 0)", x.weigh(0, 0, 1, 0), 3);
        Checks.due("parent", x.strategy(0, 0, 2), 1);
        Checks.due("weigh(1, 2, 0, 9)", x.weigh(1, 2, 0, 9), 0);
        Checks.due("what stands", Checks.view(x), "3 2 4 0 2 2 ; 4 near 0 1 0; 0 near 1 0 1; 0 near 0 1 0"
                + "; strategy for 2 0/1 7/1 0/-1; strategy for 1 0/-1 0/-1 9/0");
        Checks.due("undoCount()", x.undoCount(), 7);
        Checks.due("no refusal", x.reason(), 0);
    }

    /** Promise 14. */
    private static void dropStrategy() {
        PebbleProofs x = new PebbleProofs();
        Checks.bounds("dropStrategy(0)", () -> x.dropStrategy(0));
        for (int i = 0; i < 6; i++) {
            x.addStrategy(i % 3);
            x.weigh(i, (i + 1) % 3, i % 3, 10 + i);
        }
        for (int outside : new int[] {-1, 6, 7, LEAST, GREATEST}) {
            Checks.bounds("dropStrategy outside", () -> x.dropStrategy(outside));
        }
        Checks.due("dropStrategy(1)", x.dropStrategy(1), 5);
        Checks.bounds("dropStrategy(5)", () -> x.dropStrategy(5));
        Checks.bounds("strategy(5, 0, 0)", () -> x.strategy(5, 0, 0));
        Checks.due("dropStrategy(4)", x.dropStrategy(4), 4);
        Checks.due("dropStrategy(0)", x.dropStrategy(0), 3);
        int[] left = {2, 3, 4};
        for (int s = 0; s < 3; s++) {
            int i = left[s];
            Checks.due("target", x.strategy(s, 0, 0), i % 3);
            Checks.due("weight", x.strategy(s, (i + 1) % 3, 1), 10 + i);
            Checks.due("parent", x.strategy(s, (i + 1) % 3, 2), i % 3);
            Checks.due("weight", x.strategy(s, (i + 2) % 3, 1), 0);
            Checks.due("parent", x.strategy(s, (i + 2) % 3, 2), -1);
        }
        Checks.due("undo()", x.undo(), 9);
        Checks.due("count(4)", x.count(4), 4);
        Checks.due("weight", x.strategy(0, 1, 1), 10);
        Checks.due("no refusal", x.reason(), 0);
        // Six strategies of six vertices.
        PebbleProofs y = Checks.made("vertices 6;edge 0 1 2 3 4 5" + ";strategy 5 0 1 2 4 5 9".repeat(6));
        y.weigh(5, 0, 4, 33);
        y.weigh(5, 4, 3, 34);
        Checks.call("dropStrategy(0)", () -> y.dropStrategy(0), 5);
        Checks.due("weight", y.strategy(4, 0, 1), 33);
        Checks.due("weight", y.strategy(4, 4, 1), 34);
        Checks.due("weight", y.strategy(3, 0, 1), 2);
        Checks.call("dropStrategy(4)", () -> y.dropStrategy(4), 4);
        Checks.due("weight", y.strategy(3, 4, 1), 9);
    }

    public static void main(String[] args) {
        addEdge();
        removeEdge();
        put();
        take();
        move();
        reach();
        reachByMoves("vertices 3;edge 0 1 2;pile 0 2;pile 1 999", 2);
        reachByMoves("vertices 4;edge 0 1 2 3;pile 0 999;pile 1 999;pile 2 999", 3);
        reachByMoves("vertices 6;edge 0 1 2 3 4 5 0;edge 1 4;pile 0 998;pile 1 40;pile 2 1;pile 4 9", 3);
        reachByMoves("vertices 6;edge 5 4 3 2 1 0;pile 5 33;pile 3 1", 0);
        addStrategy();
        weigh();
        dropStrategy();
        Checks.end();
    }
}
