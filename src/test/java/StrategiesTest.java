/** Promises 37 to 41: strategies, their weights, and what they prove. */
public final class StrategiesTest {
    private static final int[] OUTSIDE = {-1, 6, Integer.MIN_VALUE, Integer.MAX_VALUE};

    private StrategiesTest() {
    }

    /** Promise 37. */
    private static void strategy() {
        PebbleProofs x = Checks.made("vertices 4;edge 0 1 2 3;strategy 3 2 3 8 0 1 2;strategy 0");
        int[] weights = {2, 0, 8, 0};
        int[] parents = {1, -1, 3, -1};
        for (int v = 0; v < 4; v++) {
            Checks.due("target", x.strategy(0, v, 0), 3);
            Checks.due("weight of " + v, x.strategy(0, v, 1), weights[v]);
            Checks.due("parent of " + v, x.strategy(0, v, 2), parents[v]);
            Checks.due("target", x.strategy(1, v, 0), 0);
            Checks.due("weight of " + v, x.strategy(1, v, 1), 0);
            Checks.due("parent of " + v, x.strategy(1, v, 2), -1);
        }
        for (int outside : OUTSIDE) {
            Checks.bounds("strategy outside", () -> x.strategy(outside, 0, 0));
            Checks.bounds("strategy outside", () -> x.strategy(0, outside, 0));
            Checks.bounds("strategy outside", () -> x.strategy(outside, 0, 3));
            Checks.bounds("strategy outside", () -> x.strategy(0, outside, -1));
        }
        Checks.bounds("strategy(2, 0, 0)", () -> x.strategy(2, 0, 0));
        Checks.bounds("strategy(0, 4, 0)", () -> x.strategy(0, 4, 0));
        for (int what : new int[] {-1, 3, Integer.MIN_VALUE, Integer.MAX_VALUE}) {
            Checks.argument("strategy(0, 0, " + what + ")", () -> x.strategy(0, 0, what));
        }
        Checks.bounds("strategy(0, 0, 0) without any", () -> new PebbleProofs().strategy(0, 0, 0));
    }

    private static void faultIn(String statements, int vertex) {
        PebbleProofs x = Checks.made("vertices 5;edge 0 1 2 3 4;edge 1 3;" + statements);
        Checks.due("wrong(0) in " + statements, x.wrong(0), vertex);
    }

    /** Promise 38. */
    private static void wrong() {
        PebbleProofs x = new PebbleProofs();
        Checks.bounds("wrong(0) without strategies", () -> x.wrong(0));
        x.addStrategy(1);
        for (int outside : OUTSIDE) {
            Checks.bounds("wrong outside", () -> x.wrong(outside));
        }
        Checks.bounds("wrong(1)", () -> x.wrong(1));
        faultIn("strategy 0", -1);
        faultIn("strategy 0 1 0 1", -1);
        faultIn("strategy 0 1 0 64 2 1 32 3 1 32 4 3 16", -1);
        faultIn("strategy 0 1 0 63 2 1 32", 2);
        faultIn("strategy 0 1 0 2 2 1 1", -1);
        faultIn("strategy 0 1 0 1 2 1 1", 2);
        faultIn("strategy 0 1 0 3 2 1 2 3 1 1", 2);
        faultIn("strategy 0 1 0 3 2 1 1 3 1 1 4 3 1", 4);
        // The target as a parent: any weight does, also one that is not less than its own.
        faultIn("strategy 1 0 1 64 2 1 1 3 1 33", -1);
        // No neighbours; the vertex itself; the target that is no neighbour.
        faultIn("strategy 0 1 0 8 3 0 1", 3);
        faultIn("strategy 0 1 1 8", 1);
        faultIn("strategy 0 1 0 8 4 1 4", 4);
        // A weight of 0 needs no parent that fits.
        faultIn("strategy 0 1 0 8 4 1 0 2 2 0", -1);
        // A parent without a weight.
        faultIn("strategy 0 2 1 1", 2);
        // Two that are the parents of one another.
        faultIn("strategy 0 2 3 4 3 2 4", 2);
        faultIn("strategy 4 3 4 2 2 3 1 1 2 1 0 1 9", 0);
        // The lowest of several, and only while there are the edges.
        PebbleProofs y = Checks.made("vertices 4;edge 0 1 2 3 0;strategy 0 1 0 4 2 1 2 3 2 1");
        Checks.due("wrong(0)", y.wrong(0), -1);
        y.removeEdge(2, 3);
        Checks.due("wrong(0)", y.wrong(0), 3);
        y.undo();
        y.removeEdge(1, 2);
        Checks.due("wrong(0)", y.wrong(0), 2);
        y.weigh(0, 1, 3, 4);
        Checks.due("wrong(0)", y.wrong(0), 1);
    }

    /** Promise 39. */
    private static void weight() {
        PebbleProofs x = Checks.made("vertices 4;edge 0 1 2 3;pile 0 7;pile 1 999;pile 3 50;"
                + "strategy 3 2 3 8 0 1 3 1 0 64;strategy 0");
        Checks.due("weight(0, false)", x.weight(0, false), 75);
        Checks.due("weight(0, true)", x.weight(0, true), 21 + 64 * 999);
        Checks.due("weight(1, false)", x.weight(1, false), 0);
        Checks.due("weight(1, true)", x.weight(1, true), 0);
        x.put(2, 2);
        Checks.due("weight(0, true)", x.weight(0, true), 37 + 64 * 999);
        for (int outside : OUTSIDE) {
            Checks.bounds("weight outside", () -> x.weight(outside, true));
            Checks.bounds("weight outside", () -> x.weight(outside, false));
        }
        Checks.bounds("weight(2, true)", () -> x.weight(2, true));
    }

    /** Promise 40. */
    private static void proves() {
        PebbleProofs x = Checks.made("vertices 3;edge 0 1 2;pile 0 1;strategy 2 1 2 2 0 1 1;strategy 0");
        for (int outside : OUTSIDE) {
            Checks.bounds("proves outside", () -> x.proves(outside));
        }
        Checks.bounds("proves(2)", () -> x.proves(2));
        Checks.due("proves(0), less", x.proves(0), false);
        x.put(1, 1);
        Checks.due("proves(0), as much", x.proves(0), false);
        Checks.due("isReachable(2)", x.isReachable(2), false);
        x.put(0, 1);
        Checks.due("proves(0), more", x.proves(0), true);
        Checks.due("proves(1), without weights", x.proves(1), false);
        x.weigh(0, 0, 1, 2);
        Checks.due("proves(0), not valid", x.proves(0), false);
        x.undo();
        x.take(0, 2);
        x.put(2, 9);
        Checks.due("pebbles on the target do not count", x.proves(0), false);
    }

    /** Promise 41. */
    private static void bound() {
        PebbleProofs x = Checks.made("vertices 4;edge 0 1 2;edge 1 3;strategy 3 1 3 4 0 1 2 2 1 1");
        for (int outside : OUTSIDE) {
            Checks.bounds("bound outside", () -> x.bound(outside));
        }
        Checks.bounds("bound(4)", () -> x.bound(4));
        Checks.due("bound(3)", x.bound(3), 8);
        Checks.noElement("bound(0)", () -> x.bound(0));
        x.addStrategy(3);
        Checks.due("bound(3)", x.bound(3), 8);
        x.weigh(1, 1, 3, 4);
        x.weigh(1, 2, 1, 2);
        // Sums of 2, 8 and 3: 13 by 2, rounded down.
        Checks.due("bound(3)", x.bound(3), 7);
        x.weigh(1, 0, 1, 1);
        Checks.due("bound(3)", x.bound(3), 5);
        Checks.due("number(3)", x.number(3), 5);
        // A strategy that is not valid does not count, nor does one for another target.
        x.weigh(1, 0, 1, 3);
        Checks.due("bound(3)", x.bound(3), 8);
        x.weigh(1, 0, 1, 1);
        x.addStrategy(0);
        x.weigh(2, 1, 0, 64);
        Checks.due("bound(3)", x.bound(3), 5);
        Checks.noElement("bound(0), some without a weight", () -> x.bound(0));
        x.weigh(2, 3, 1, 1);
        x.weigh(2, 2, 1, 32);
        Checks.due("bound(0)", x.bound(0), 98);
        x.weigh(0, 0, 1, 0);
        x.weigh(1, 0, 1, 0);
        Checks.noElement("bound(3), vertex 0 without a weight", () -> x.bound(3));
        x.weigh(1, 0, 1, 2);
        Checks.due("bound(3)", x.bound(3), 7);
        // Together they weigh each vertex, though none does alone.
        PebbleProofs y = Checks.made("vertices 3;edge 1 0 2;strategy 0 1 0 3;strategy 0 2 0 1;strategy 0 1 2 1");
        Checks.due("bound(0)", y.bound(0), 5);
        y.dropStrategy(1);
        Checks.noElement("bound(0)", () -> y.bound(0));
        Checks.due("reason()", y.reason(), 0);
        Checks.due("bound(0) of one vertex", Checks.made("vertices 1").bound(0), 1);
        Checks.due("bound(0) of one vertex", Checks.made("vertices 1;strategy 0;strategy 0").bound(0), 1);
        String all = ";strategy 1 0 1 64".repeat(6);
        Checks.due("bound(1)", Checks.made("vertices 2;edge 0 1" + all).bound(1), 2);
    }

    public static void main(String[] args) {
        strategy();
        wrong();
        weight();
        proves();
        bound();
        Checks.end();
    }
}
