/** Promises 20 to 25: each sentence and the boundaries that it names. */
final class SentencesOfGraph {
    private static final String COMPLETE = "vertices 6;edge 0 1 2 3 4 5;edge 0 2 4 0 3 5 0;edge 1 3;edge 2 5 1 4";

    private SentencesOfGraph() {
    }

    static void check() {
        Sentences.part("Promise 20");
        count();
        countOfMoves();
        Sentences.part("Promise 21");
        isEdge();
        Sentences.part("Promise 22");
        distance();
        Sentences.part("Promise 23");
        farthest();
        Sentences.part("Promise 24");
        pebbles();
        Sentences.part("Promise 25");
        moves();
    }

    private static void counts(String text, int... due) {
        PebbleProofs x = Checks.made(text);
        for (int what = 0; what < due.length; what++) {
            Checks.due("count(" + what + ") in " + text, x.count(what), due[what]);
        }
    }

    private static void count() {
        Sentences.say("Returns a number.", "Returns that number.",
                "- `what`: 0 vertices, 1 edges, 2 pebbles on all vertices, 3 moves that were made",
                "4 strategies, 5 the diameter (the greatest distance)");
        counts("vertices 1", 1, 0, 0, 0, 0, 0);
        counts("vertices 1;pile 0 999" + ";strategy 0".repeat(6), 1, 0, 999, 0, 6, 0);
        counts("vertices 2;edge 0 1;pile 1 3;strategy 1", 2, 1, 3, 0, 1, 1);
        counts(Checks.path(6), 6, 5, 0, 0, 0, 5);
        counts(COMPLETE, 6, 15, 0, 0, 0, 1);
        counts("vertices 6;edge 0 1 2 3 4 5 0", 6, 6, 0, 0, 0, 3);
        counts("vertices 6;edge 1 0 2;edge 3 0 4;edge 0 5", 6, 5, 0, 0, 0, 2);
        // The diameter is that of neither vertex 0 nor the last one.
        counts("vertices 5;edge 1 2 0 3;edge 2 4", 5, 4, 0, 0, 0, 3);
        StringBuilder full = new StringBuilder(Checks.path(6));
        for (int v = 0; v < 6; v++) {
            full.append(";pile ").append(v).append(" 999");
        }
        counts(full.toString(), 6, 5, 5994, 0, 0, 5);

        Sentences.say("Throws `IllegalArgumentException` if what is out of range");
        PebbleProofs x = Checks.made(Checks.path(6));
        for (int what : new int[] {-1, -6, 6, 7, 256, Integer.MIN_VALUE, Integer.MAX_VALUE}) {
            Checks.argument("count(" + what + ")", () -> x.count(what));
        }
        Checks.due("no refusal", x.reason(), 0);
    }

    private static void countOfMoves() {
        Sentences.say("3 moves that were made (undo() and restore() bring back this number, too)");
        PebbleProofs x = Checks.made("vertices 3;edge 0 1 2;pile 0 20");
        Checks.due("count(3)", x.count(3), 0);
        x.move(0, 1);
        Checks.due("count(3) behind a move", x.count(3), 1);
        x.put(0, 1);
        Checks.state("move(0, 2)", () -> x.move(0, 2));
        Checks.due("count(3) behind other calls", x.count(3), 1);
        Checks.due("reach(2)", x.reach(2), x.count(3) - 1);
        int made = x.count(3);
        Checks.due("reach(2) again", x.reach(2), 0);
        Checks.due("count(3)", x.count(3), made);
        x.undo();
        Checks.due("count(3) behind undo() of no moves", x.count(3), made);
        x.undo();
        Checks.due("count(3) behind undo() of reach()", x.count(3), 1);
        x.save();
        x.undo();
        x.undo();
        Checks.due("count(3) behind undo() of move()", x.count(3), 0);
        x.restore();
        Checks.due("count(3) behind restore()", x.count(3), 1);
        x.move(0, 1);
        x.move(1, 0);
        x.restore();
        Checks.due("count(3) behind restore()", x.count(3), 1);
        Checks.type(x, "vertices 1");
        x.load();
        Checks.due("count(3) behind load()", x.count(3), 0);
    }

    private static void isEdge() {
        Sentences.say("Tells whether there is an edge between two vertices.", "Returns true if so.");
        PebbleProofs x = Checks.made("vertices 6;edge 0 5 2;edge 5 1 3 4");
        int[] edges = {0, 5, 5, 2, 5, 1, 1, 3, 3, 4};
        for (int v = 0; v < 6; v++) {
            for (int w = 0; w < 6; w++) {
                boolean due = false;
                for (int i = 0; i < edges.length; i += 2) {
                    due |= edges[i] == v && edges[i + 1] == w || edges[i] == w && edges[i + 1] == v;
                }
                Checks.due("isEdge(" + v + ", " + w + ")", x.isEdge(v, w), due);
            }
        }
        Checks.due("isEdge(0, 0) of one vertex", Checks.made("vertices 1").isEdge(0, 0), false);

        Sentences.say("- `vertex`: number of a vertex", "- `other`: number of a vertex",
                "Throws `IndexOutOfBoundsException` if one of the vertices does not exist");
        Checks.vertices("isEdge", (one, vertex) -> one.isEdge(vertex, 0));
        Checks.vertices("isEdge", (one, vertex) -> one.isEdge(0, vertex));
        Checks.vertices("isEdge", (one, vertex) -> one.isEdge(vertex, vertex));
    }

    private static void distance() {
        Sentences.say("Returns the distance of two vertices.", "Returns the distance.");
        for (int n = 1; n <= 6; n++) {
            PebbleProofs path = Checks.made(Checks.path(n));
            for (int v = 0; v < n; v++) {
                for (int w = 0; w < n; w++) {
                    Checks.due("distance(" + v + ", " + w + ")", path.distance(v, w), Math.abs(v - w));
                }
            }
        }
        // Two paths, the later one is the shorter.
        PebbleProofs x = Checks.made("vertices 6;edge 0 1 2 3 4;edge 0 5 4");
        Checks.due("distance(0, 4)", x.distance(0, 4), 2);
        Checks.due("distance(5, 2)", x.distance(5, 2), 3);
        x.addEdge(0, 4);
        Checks.due("distance(0, 4)", x.distance(0, 4), 1);
        x.removeEdge(0, 4);
        x.removeEdge(0, 5);
        Checks.due("distance(0, 4)", x.distance(0, 4), 4);
        Checks.due("distance(5, 0)", x.distance(5, 0), 5);
        x.undo();
        Checks.due("distance(5, 0)", x.distance(5, 0), 1);

        Sentences.say("- `vertex`: number of a vertex", "- `other`: number of a vertex",
                "Throws `IndexOutOfBoundsException` if one of the vertices does not exist");
        Checks.vertices("distance", (one, vertex) -> one.distance(vertex, 0));
        Checks.vertices("distance", (one, vertex) -> one.distance(0, vertex));
        Checks.vertices("distance", (one, vertex) -> one.distance(vertex, vertex));
    }

    private static void farthest() {
        Sentences.say("Returns the vertex with the greatest distance from a vertex,", "Returns the vertex.");
        PebbleProofs x = Checks.made("vertices 5;edge 3 0 2;edge 1 2;edge 3 4");
        int[] due = {1, 4, 4, 1, 1};
        for (int v = 0; v < 5; v++) {
            Checks.due("farthest(" + v + ")", x.farthest(v), due[v]);
        }
        x.addEdge(4, 1);
        Checks.due("farthest(4)", x.farthest(4), 0);
        Checks.due("farthest(0) of one vertex", Checks.made("vertices 1").farthest(0), 0);
        Checks.due("farthest(0) of two", Checks.made("vertices 2;edge 0 1").farthest(0), 1);
        Checks.due("farthest(1) of two", Checks.made("vertices 2;edge 0 1").farthest(1), 0);

        Sentences.say("the lowest number among several.");
        PebbleProofs complete = Checks.made(COMPLETE);
        PebbleProofs ring = Checks.made("vertices 5;edge 0 1 2 3 4 0");
        int[] onRing = {2, 3, 0, 0, 1};
        for (int v = 0; v < 6; v++) {
            Checks.due("farthest(" + v + ") of all edges", complete.farthest(v), v == 0 ? 1 : 0);
        }
        for (int v = 0; v < 5; v++) {
            Checks.due("farthest(" + v + ") on a ring", ring.farthest(v), onRing[v]);
        }
        PebbleProofs star = Checks.made("vertices 6;edge 1 0 2;edge 3 0 4;edge 0 5");
        Checks.due("farthest(1) on a star", star.farthest(1), 2);
        Checks.due("farthest(5) on a star", star.farthest(5), 1);
        Checks.due("farthest(0) on a star", star.farthest(0), 1);

        Sentences.say("- `vertex`: number of a vertex",
                "Throws `IndexOutOfBoundsException` if there is no such vertex");
        Checks.vertices("farthest", (one, vertex) -> one.farthest(vertex));
    }

    private static void pebbles() {
        Sentences.say("Returns the pebbles on a vertex.", "Returns their number.");
        PebbleProofs x = Checks.made(Checks.path(6) + ";pile 0 999;pile 1 0;pile 2 1;pile 4 998;pile 5 256");
        int[] due = {999, 0, 1, 0, 998, 256};
        for (int v = 0; v < 6; v++) {
            Checks.due("pebbles(" + v + ")", x.pebbles(v), due[v]);
        }

        Sentences.say("- `vertex`: number of a vertex",
                "Throws `IndexOutOfBoundsException` if there is no such vertex");
        Checks.vertices("pebbles", (one, vertex) -> one.pebbles(vertex));
    }

    private static void moves() {
        Sentences.say("Returns how many different moves can be made from a vertex now.",
                "Returns their number: its neighbours with fewer than 999 pebbles,");
        PebbleProofs x = Checks.made("vertices 5;edge 0 1 2;edge 0 2;edge 0 3 4;pile 0 2;pile 1 999;pile 2 998;pile 4 9");
        Checks.due("moves(0), one of three neighbours is full", x.moves(0), 2);
        Checks.due("moves(1)", x.moves(1), 2);
        Checks.due("moves(2), one of two is full", x.moves(2), 1);
        Checks.due("moves(4)", x.moves(4), 1);
        x.put(2, 1);
        Checks.due("moves(0), two are full", x.moves(0), 1);
        Checks.due("moves(1), the other one is full", x.moves(1), 1);
        x.addEdge(0, 4);
        Checks.due("moves(0), one more", x.moves(0), 2);
        PebbleProofs full = Checks.made("vertices 2;edge 0 1;pile 0 999;pile 1 999");
        Checks.due("moves(0), all are full", full.moves(0), 0);
        full.take(1, 1);
        Checks.due("moves(0), full itself", full.moves(0), 1);
        Checks.due("moves(0) of one vertex", Checks.made("vertices 1;pile 0 999").moves(0), 0);
        Checks.due("moves(0) of all edges", Checks.made(COMPLETE + ";pile 0 2").moves(0), 5);

        String piles = ";pile 0 2;pile 1 2;pile 2 1;pile 4 3;pile 5 9";
        PebbleProofs path = Checks.made(Checks.path(6) + piles);
        PebbleProofs ring = Checks.made("vertices 6;edge 1 3 0 2 4 5 1;edge 0 5" + piles);
        int[] onPath = {1, 2, 0, 0, 2, 1};
        int[] onRing = {3, 2, 0, 0, 2, 3};
        for (int v = 0; v < 6; v++) {
            int vertex = v;
            Checks.call("moves(" + v + ") on a path", () -> path.moves(vertex), onPath[v]);
            Checks.call("moves(" + v + ") on a ring", () -> ring.moves(vertex), onRing[v]);
        }

        Sentences.say("if it has at least 2 pebbles, otherwise 0.");
        for (int has = 0; has < 5; has++) {
            PebbleProofs y = Checks.made("vertices 3;edge 1 0 2;pile 0 " + has);
            Checks.due("moves(0) with " + has, y.moves(0), has < 2 ? 0 : 2);
        }

        Sentences.say("- `vertex`: number of a vertex",
                "Throws `IndexOutOfBoundsException` if there is no such vertex");
        Checks.vertices("moves", (one, vertex) -> one.moves(vertex));
    }
}
