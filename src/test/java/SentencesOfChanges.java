/** Sections 1, 2 and 6 and promises 6 to 14: each sentence and the boundaries that it names. */
final class SentencesOfChanges {
    private static final int LEAST = Integer.MIN_VALUE;
    private static final int GREATEST = Integer.MAX_VALUE;
    private static final String COMPLETE = "vertices 6;edge 0 1 2 3 4 5;edge 0 2 4 0 3 5 0;edge 1 3;edge 2 5 1 4";

    private SentencesOfChanges() {
    }

    static void check() {
        Sentences.part("GRAPH");
        graph();
        Sentences.part("MOVES");
        moves();
        Sentences.part("REFUSALS");
        refusals();
        Sentences.part("Promise 6");
        addEdge();
        Sentences.part("Promise 7");
        removeEdge();
        Sentences.part("Promise 8");
        put();
        Sentences.part("Promise 9");
        take();
        Sentences.part("Promise 10");
        move();
        Sentences.part("Promise 11");
        reach();
        reachRefused();
        Sentences.part("Promise 12");
        addStrategy();
        Sentences.part("Promise 13");
        weigh();
        weighRefused();
        Sentences.part("Promise 14");
        dropStrategy();
    }

    // ---- Section 1

    private static void graph() {
        Sentences.say("There are 1 to 6 vertices, numbered from 0,");
        Checks.due("vertices 0", Checks.errorIn("vertices 0"), 9);
        Checks.due("vertices 7", Checks.errorIn("vertices 7"), 9);
        for (int n = 1; n <= 6; n++) {
            Checks.due("count(0)", Checks.made(Checks.path(n)).count(0), n);
        }
        Checks.vertices("pebbles", (x, vertex) -> x.pebbles(vertex));

        Sentences.say("and edges between different vertices, at most one between two.");
        PebbleProofs x = new PebbleProofs();
        Checks.argument("addEdge(2, 2)", () -> x.addEdge(2, 2));
        Checks.state("addEdge(0, 1)", () -> x.addEdge(0, 1));
        Checks.state("addEdge(1, 0)", () -> x.addEdge(1, 0));
        Checks.due("count(1)", x.count(1), 2);
        PebbleProofs full = Checks.made(Checks.path(6));
        for (int v = 0; v < 6; v++) {
            for (int w = v + 2; w < 6; w++) {
                full.addEdge(w, v);
            }
        }
        Checks.due("all edges of six vertices", full.count(1), 15);
        for (int v = 0; v < 6; v++) {
            for (int w = 0; w < 6; w++) {
                int one = v;
                int other = w;
                Checks.call("addEdge(" + v + ", " + w + ") to all edges", () -> full.addEdge(one, other),
                        v == w ? "IllegalArgumentException" : "IllegalStateException");
            }
        }

        Sentences.say("A set of vertices is written as a number whose bit k is 1 if it contains vertex k.");
        Checks.due("the empty set", Checks.made(Checks.path(6)).reachable(), 0);
        for (int k = 0; k < 6; k++) {
            Checks.due("one vertex", Checks.made(Checks.path(6) + ";pile " + k + " 1").reachable(), 1 << k);
        }
        Checks.due("all vertices", Checks.made(Checks.path(6) + ";pile 0 32").reachable(), 63);

        Sentences.say("Two vertices with an edge are neighbours.");
        PebbleProofs y = Checks.made("vertices 3;edge 2 0 1;pile 0 4");
        Checks.call("move(0, 1)", () -> y.move(0, 1), 1);
        Checks.call("move(0, 2)", () -> y.move(0, 2), 1);
        Checks.refused("move(1, 2)", y, () -> y.move(1, 2), 4);

        Sentences.say("The graph is connected at any time.");
        for (int n = 2; n <= 6; n++) {
            PebbleProofs path = Checks.made(Checks.path(n));
            for (int v = 0; v + 1 < n; v++) {
                int one = v;
                Checks.refused("removeEdge on a path", path, () -> path.removeEdge(one, one + 1), 3);
                Checks.refused("removeEdge on a path", path, () -> path.removeEdge(one + 1, one), 3);
            }
            Checks.due("count(1)", path.count(1), n - 1);
        }
        Checks.due("errorPosition()", Checks.errorIn("vertices 4;edge 0 1;edge 2 3"), 28);

        Sentences.say("The distance of two vertices is the least number of edges of a path between them.");
        PebbleProofs ring = Checks.made("vertices 6;edge 0 1 2 3 4 5 0");
        int[] far = {0, 1, 2, 3, 2, 1};
        for (int v = 0; v < 6; v++) {
            for (int w = 0; w < 6; w++) {
                Checks.due("distance(" + v + ", " + w + ")", ring.distance(v, w), far[Math.abs(v - w)]);
            }
        }
        Checks.due("distance(0, 5) on a path", Checks.made(Checks.path(6)).distance(0, 5), 5);

        Sentences.say("A vertex has 0 to 999 pebbles; a pile is what pebbles lie on all vertices.");
        PebbleProofs z = Checks.made("vertices 2;edge 0 1;pile 0 998;pile 1 1");
        Checks.call("put(0, 1)", () -> z.put(0, 1), 999);
        Checks.argument("put(0, 1)", () -> z.put(0, 1));
        Checks.call("take(1, 1)", () -> z.take(1, 1), 0);
        Checks.state("take(1, 1)", () -> z.take(1, 1));
        Checks.due("pebbles(0)", z.pebbles(0), 999);
        Checks.due("pebbles(1)", z.pebbles(1), 0);
    }

    // ---- Section 2

    private static void moves() {
        Sentences.say("A move takes two pebbles from a vertex that has at least two,");
        for (int has = 0; has <= 4; has++) {
            PebbleProofs x = Checks.made("vertices 2;edge 0 1;pile 0 " + has);
            Checks.call("move(0, 1) with " + has, () -> x.move(0, 1), has < 2 ? "IllegalStateException" : 1);
            Checks.due("pebbles(0)", x.pebbles(0), has < 2 ? has : has - 2);
            Checks.due("reason()", x.reason(), has < 2 ? 5 : 0);
        }

        Sentences.say("and puts one pebble on a neighbour that has fewer than 999;");
        for (int there = 996; there <= 999; there++) {
            PebbleProofs x = Checks.made("vertices 2;edge 0 1;pile 0 9;pile 1 " + there);
            Checks.call("move(0, 1) to " + there, () -> x.move(0, 1), x.pebbles(1) == 999
                    ? "IllegalStateException" : there + 1);
            Checks.due("reason()", x.reason(), there == 999 ? 6 : 0);
            Checks.due("pebbles(0)", x.pebbles(0), there == 999 ? 9 : 7);
        }

        Sentences.say("the other one is lost.");
        PebbleProofs y = Checks.made("vertices 3;edge 0 1 2;pile 0 5;pile 2 7");
        y.move(0, 1);
        Checks.due("count(2)", y.count(2), 11);
        Checks.due("pebbles(2)", y.pebbles(2), 7);
        y.move(2, 1);
        Checks.due("count(2)", y.count(2), 10);
    }

    // ---- Section 6

    private static void refusals() {
        Sentences.say("A change that cannot be made is refused by an IllegalStateException; reason() tells why,",
                "1 addEdge(): there is such an edge.");
        PebbleProofs x = new PebbleProofs();
        Checks.refused("addEdge(0, 1)", x, () -> x.addEdge(0, 1), 1);
        Checks.refused("addEdge(2, 1)", x, () -> x.addEdge(2, 1), 1);

        Sentences.say("2 removeEdge(): there is no such edge.");
        Checks.refused("removeEdge(0, 2)", x, () -> x.removeEdge(0, 2), 2);
        Checks.refused("removeEdge(2, 0)", x, () -> x.removeEdge(2, 0), 2);

        Sentences.say("3 removeEdge(): the graph would not be connected.");
        Checks.refused("removeEdge(0, 1)", x, () -> x.removeEdge(0, 1), 3);
        Checks.refused("removeEdge(2, 1)", x, () -> x.removeEdge(2, 1), 3);
        PebbleProofs halves = Checks.made("vertices 6;edge 0 1 2 0;edge 3 4 5 3;edge 2 3");
        Checks.refused("removeEdge(2, 3)", halves, () -> halves.removeEdge(2, 3), 3);

        Sentences.say("4 move(): the vertices are no neighbours (also if they are the same).");
        Checks.refused("move(0, 2)", x, () -> x.move(0, 2), 4);
        Checks.refused("move(2, 0), too few", x, () -> x.move(2, 0), 4);
        Checks.refused("move(0, 0)", x, () -> x.move(0, 0), 4);
        Checks.refused("move(1, 1), too few", x, () -> x.move(1, 1), 4);
        PebbleProofs one = Checks.made("vertices 1;pile 0 9");
        Checks.refused("move(0, 0) of one vertex", one, () -> one.move(0, 0), 4);

        Sentences.say("5 move(), take(): the vertex has too few pebbles.");
        Checks.refused("move(1, 0), none", x, () -> x.move(1, 0), 5);
        x.put(1, 1);
        Checks.refused("move(1, 2), one", x, () -> x.move(1, 2), 5);
        Checks.refused("take(0, 5) of 4", x, () -> x.take(0, 5), 5);
        Checks.refused("take(2, 1) of 0", x, () -> x.take(2, 1), 5);

        Sentences.say("6 move(): the other vertex has 999 pebbles;");
        PebbleProofs full = Checks.made("vertices 3;edge 0 1 2;pile 0 2;pile 1 999");
        Checks.refused("move(0, 1)", full, () -> full.move(0, 1), 6);

        Sentences.say("reach(): the target cannot be reached.");
        PebbleProofs far = Checks.made("vertices 3;edge 0 1 2;pile 0 3");
        Checks.refused("reach(2)", far, () -> far.reach(2), 6);

        Sentences.say("7 addStrategy(): there are 6.");
        PebbleProofs six = Checks.made("vertices 1" + ";strategy 0".repeat(5));
        Checks.call("addStrategy(0)", () -> six.addStrategy(0), 5);
        Checks.due("reason()", six.reason(), 0);
        Checks.refused("addStrategy(0)", six, () -> six.addStrategy(0), 7);

        byTheFirst();
        Sentences.say("(nothing else changes then):");
        Untouched.refusals();
    }

    private static void byTheFirst() {
        Sentences.say("by the first of these numbers that applies");
        // 2 before 3: without the edge the graph would be no more connected than it is.
        PebbleProofs path = Checks.made("vertices 4;edge 0 1 2 3");
        Checks.refused("removeEdge(0, 3)", path, () -> path.removeEdge(0, 3), 2);
        // 4 before 5 and 6.
        PebbleProofs x = Checks.made("vertices 4;edge 0 1 2 3;pile 0 1;pile 1 999;pile 3 999");
        Checks.refused("move(0, 3), too few, full", x, () -> x.move(0, 3), 4);
        Checks.refused("move(3, 3), full", x, () -> x.move(3, 3), 4);
        Checks.refused("move(3, 1), full", x, () -> x.move(3, 1), 4);
        Checks.refused("move(0, 0), too few", x, () -> x.move(0, 0), 4);
        // 5 before 6.
        Checks.refused("move(0, 1), too few, full", x, () -> x.move(0, 1), 5);
        Checks.refused("move(2, 3), none, full", x, () -> x.move(2, 3), 5);
        x.put(0, 1);
        Checks.refused("move(0, 1), full", x, () -> x.move(0, 1), 6);
    }

    // ---- Promises

    private static void addEdge() {
        Sentences.say("Adds an edge.");
        PebbleProofs x = Checks.made("vertices 4;edge 0 1 2 3;pile 2 5;strategy 0 1 0 2");
        x.addEdge(3, 0);
        Checks.due("everything", Checks.view(x), Checks.view(
                Checks.made("vertices 4;edge 0 1 2 3 0;pile 2 5;strategy 0 1 0 2")));
        Checks.due("distance(0, 3)", x.distance(0, 3), 1);
        Checks.due("undoCount()", x.undoCount(), 1);

        Sentences.say("- `vertex`: number of a vertex", "- `other`: number of another vertex",
                "Throws `IndexOutOfBoundsException` if one of the vertices does not exist (checked first)");
        Checks.vertices("addEdge", (one, vertex) -> one.addEdge(vertex, 0));
        Checks.vertices("addEdge", (one, vertex) -> one.addEdge(0, vertex));
        Checks.vertices("addEdge of the same", (one, vertex) -> one.addEdge(vertex, vertex));

        Sentences.say("Returns the number of edges afterwards.");
        PebbleProofs more = Checks.made(Checks.path(6));
        int edges = 5;
        for (int v = 0; v < 6; v++) {
            for (int w = v + 2; w < 6; w++) {
                edges++;
                Checks.due("addEdge(" + v + ", " + w + ")", more.addEdge(v, w), edges);
            }
        }
        Checks.due("all edges", edges, 15);

        Sentences.say("Throws `IllegalArgumentException` if both are the same (checked second)");
        for (int v = 0; v < 4; v++) {
            int vertex = v;
            Checks.argument("addEdge(" + v + ", " + v + ")", () -> x.addEdge(vertex, vertex));
        }
        Checks.argument("addEdge(0, 0) of one vertex", () -> Checks.made("vertices 1").addEdge(0, 0));
        Checks.due("no refusal", x.reason(), 0);

        Sentences.say("Throws `IllegalStateException` if it is refused (section 6)");
        Checks.refused("addEdge(0, 3)", x, () -> x.addEdge(0, 3), 1);
        Checks.refused("addEdge(3, 0)", x, () -> x.addEdge(3, 0), 1);
        Checks.due("undoCount()", x.undoCount(), 1);
        Checks.due("count(1)", x.count(1), 4);
    }

    private static void removeEdge() {
        Sentences.say("Removes an edge.");
        PebbleProofs x = Checks.made("vertices 4;edge 0 1 2 3 0;pile 2 5;strategy 0 1 0 2");
        x.removeEdge(3, 0);
        Checks.due("everything", Checks.view(x), Checks.view(
                Checks.made("vertices 4;edge 0 1 2 3;pile 2 5;strategy 0 1 0 2")));
        Checks.due("distance(0, 3)", x.distance(0, 3), 3);
        Checks.due("undoCount()", x.undoCount(), 1);

        Sentences.say("- `vertex`: number of a vertex", "- `other`: number of another vertex",
                "Throws `IndexOutOfBoundsException` if one of the vertices does not exist (checked first)");
        Checks.vertices("removeEdge", (one, vertex) -> one.removeEdge(vertex, 0));
        Checks.vertices("removeEdge", (one, vertex) -> one.removeEdge(0, vertex));
        Checks.vertices("removeEdge of the same", (one, vertex) -> one.removeEdge(vertex, vertex));

        Sentences.say("Returns the number of edges afterwards.");
        PebbleProofs less = Checks.made(COMPLETE);
        int edges = 15;
        for (int v = 0; v < 6; v++) {
            for (int w = v + 2; w < 6; w++) {
                edges--;
                Checks.due("removeEdge(" + v + ", " + w + ")", less.removeEdge(v, w), edges);
            }
        }
        Checks.due("a path is left", Checks.view(less), Checks.view(Checks.made(Checks.path(6))));

        Sentences.say("Throws `IllegalArgumentException` if both are the same (checked second)");
        for (int v = 0; v < 4; v++) {
            int vertex = v;
            Checks.argument("removeEdge(" + v + ", " + v + ")", () -> x.removeEdge(vertex, vertex));
        }
        Checks.argument("removeEdge(0, 0) of one vertex", () -> Checks.made("vertices 1").removeEdge(0, 0));
        Checks.due("no refusal", x.reason(), 0);

        Sentences.say("Throws `IllegalStateException` if it is refused (section 6)");
        Checks.refused("removeEdge(0, 3)", x, () -> x.removeEdge(0, 3), 2);
        Checks.refused("removeEdge(2, 3)", x, () -> x.removeEdge(2, 3), 3);
        Checks.refused("removeEdge(3, 1)", x, () -> x.removeEdge(3, 1), 2);
        Checks.due("undoCount()", x.undoCount(), 1);
        Checks.due("count(1)", x.count(1), 3);
    }

    private static void put() {
        Sentences.say("Puts pebbles on a vertex.", "Returns the pebbles on the vertex afterwards.");
        PebbleProofs x = Checks.made("vertices 3;edge 0 1 2;pile 0 4;pile 1 3");
        Checks.due("put(1, 6)", x.put(1, 6), 9);
        Checks.due("put(2, 1)", x.put(2, 1), 1);
        Checks.due("everything", Checks.view(x), Checks.view(
                Checks.made("vertices 3;edge 0 1 2;pile 0 4;pile 1 9;pile 2 1")));
        Checks.due("undoCount()", x.undoCount(), 2);

        Sentences.say("- `vertex`: number of a vertex",
                "Throws `IndexOutOfBoundsException` if there is no such vertex (checked first)");
        for (int pebbles : new int[] {1, 0, -1, 100, GREATEST}) {
            Checks.vertices("put of " + pebbles, (one, vertex) -> one.put(vertex, pebbles));
        }

        Sentences.say("- `pebbles`: 1 to 99,", "Throws `IllegalArgumentException` if pebbles is out of range");
        PebbleProofs y = Checks.made("vertices 2;edge 0 1");
        for (int pebbles : new int[] {0, -1, -99, 100, 101, 999, 1000, LEAST, GREATEST}) {
            Checks.argument("put(0, " + pebbles + ")", () -> y.put(0, pebbles));
        }
        Checks.due("pebbles(0)", y.pebbles(0), 0);
        Checks.due("put(0, 1)", y.put(0, 1), 1);
        Checks.due("put(0, 99)", y.put(0, 99), 100);
        Checks.due("put(1, 99)", y.put(1, 99), 99);
        Checks.due("put(1, 98)", y.put(1, 98), 197);

        Sentences.say("so that the vertex has at most 999 then");
        PebbleProofs z = Checks.made("vertices 2;edge 0 1;pile 0 900;pile 1 901");
        Checks.argument("put(1, 99) to 901", () -> z.put(1, 99));
        Checks.due("put(0, 99) to 900", z.put(0, 99), 999);
        Checks.due("put(1, 98) to 901", z.put(1, 98), 999);
        for (int pebbles : new int[] {1, 2, 98, 99, 100, 0}) {
            Checks.argument("put(0, " + pebbles + ") to 999", () -> z.put(0, pebbles));
        }
        z.take(0, 1);
        Checks.argument("put(0, 2) to 998", () -> z.put(0, 2));
        Checks.due("put(0, 1) to 998", z.put(0, 1), 999);
        Checks.due("no refusal", z.reason(), 0);
        Checks.due("undoCount()", z.undoCount(), 4);
    }

    private static void take() {
        Sentences.say("Takes pebbles away from a vertex.", "Returns the pebbles on the vertex afterwards.");
        PebbleProofs x = Checks.made("vertices 3;edge 0 1 2;pile 0 4;pile 1 9;pile 2 1");
        Checks.due("take(1, 6)", x.take(1, 6), 3);
        Checks.due("take(2, 1)", x.take(2, 1), 0);
        Checks.due("everything", Checks.view(x), Checks.view(
                Checks.made("vertices 3;edge 0 1 2;pile 0 4;pile 1 3")));
        Checks.due("undoCount()", x.undoCount(), 2);

        Sentences.say("- `vertex`: number of a vertex",
                "Throws `IndexOutOfBoundsException` if there is no such vertex (checked first)");
        for (int pebbles : new int[] {1, 0, 4, 100, LEAST}) {
            Checks.vertices("take of " + pebbles, (one, vertex) -> one.take(vertex, pebbles));
        }

        Sentences.say("- `pebbles`: 1 to 99",
                "Throws `IllegalArgumentException` if pebbles is out of range (checked second)");
        PebbleProofs y = Checks.made("vertices 2;edge 0 1;pile 0 999;pile 1 4");
        for (int pebbles : new int[] {0, -1, -99, 100, 101, 999, 1000, LEAST, GREATEST}) {
            Checks.argument("take(0, " + pebbles + ") of 999", () -> y.take(0, pebbles));
            Checks.argument("take(1, " + pebbles + ") of 4", () -> y.take(1, pebbles));
        }
        Checks.due("no refusal", y.reason(), 0);
        Checks.due("take(0, 1)", y.take(0, 1), 998);
        Checks.due("take(0, 99)", y.take(0, 99), 899);

        Sentences.say("Throws `IllegalStateException` if it is refused (section 6)");
        Checks.refused("take(1, 5) of 4", y, () -> y.take(1, 5), 5);
        Checks.refused("take(1, 99) of 4", y, () -> y.take(1, 99), 5);
        Checks.due("pebbles(1)", y.pebbles(1), 4);
        Checks.due("take(1, 4) of 4", y.take(1, 4), 0);
        Checks.refused("take(1, 1) of 0", y, () -> y.take(1, 1), 5);
        PebbleProofs z = Checks.made("vertices 2;edge 0 1;pile 0 99;pile 1 98");
        Checks.due("take(0, 99) of 99", z.take(0, 99), 0);
        Checks.refused("take(1, 99) of 98", z, () -> z.take(1, 99), 5);
        Checks.due("undoCount()", z.undoCount(), 1);
    }

    private static void move() {
        Sentences.say("Makes a move (section 2).", "Returns the pebbles on other afterwards.");
        PebbleProofs x = Checks.made("vertices 3;edge 0 1 2;pile 0 4;pile 1 7;pile 2 998");
        Checks.due("move(0, 1)", x.move(0, 1), 8);
        Checks.due("move(1, 2)", x.move(1, 2), 999);
        Checks.due("move(1, 0)", x.move(1, 0), 3);
        Checks.due("pebbles(0)", x.pebbles(0), 3);
        Checks.due("pebbles(1)", x.pebbles(1), 4);
        Checks.due("pebbles(2)", x.pebbles(2), 999);
        Checks.due("count(3)", x.count(3), 3);
        Checks.due("undoCount()", x.undoCount(), 3);

        Sentences.say("- `vertex`: number of a vertex", "- `other`: number of a vertex",
                "Throws `IndexOutOfBoundsException` if one of the vertices does not exist (checked first)");
        Checks.vertices("move from", (one, vertex) -> one.move(vertex, 0));
        Checks.vertices("move to", (one, vertex) -> one.move(0, vertex));
        Checks.vertices("move to the same", (one, vertex) -> one.move(vertex, vertex));

        Sentences.say("Throws `IllegalStateException` if it is refused (section 6)");
        Checks.refused("move(0, 2)", x, () -> x.move(0, 2), 4);
        Checks.refused("move(1, 2)", x, () -> x.move(1, 2), 6);
        Checks.call("move(0, 1)", () -> x.move(0, 1), 5);
        Checks.refused("move(0, 1) again", x, () -> x.move(0, 1), 5);
        Checks.due("undoCount()", x.undoCount(), 4);
        Checks.due("count(3)", x.count(3), 4);
    }

    private static void reach() {
        Sentences.say("Makes the moves that next() tells, one after the other, until the target has a pebble.");
        // 0 to 1, 1 to 0, 0 to 1, and only then 1 to 2: each is the lowest that leaves the target to be reached.
        PebbleProofs x = Checks.made("vertices 3;edge 0 1 2;pile 0 3;pile 1 3");
        PebbleProofs same = Checks.made("vertices 3;edge 0 1 2;pile 0 3;pile 1 3");
        for (int step : new int[] {1, 10, 1, 12}) {
            Checks.due("next(2)", same.next(2), step);
            same.move(step / 10, step % 10);
        }
        Checks.due("reach(2)", x.reach(2), 4);
        Checks.due("everything", Checks.view(x), Checks.view(same));
        Checks.due("count(3)", x.count(3), 4);
        PebbleProofs more = Checks.made("vertices 2;edge 0 1;pile 0 8");
        Checks.due("reach(1)", more.reach(1), 1);
        Checks.due("it ends at the first pebble", more.pebbles(0), 6);

        Sentences.say("This is one change.");
        PebbleProofs one = Checks.made("vertices 4;edge 0 1 2 3;pile 0 9");
        Checks.due("reach(3)", one.reach(3), 7);
        Checks.due("undoCount()", one.undoCount(), 1);
        Checks.due("undo()", one.undo(), 0);
        Checks.due("pebbles(0)", one.pebbles(0), 9);
        Checks.due("count(3)", one.count(3), 0);

        Sentences.say("- `target`: number of a vertex",
                "Throws `IndexOutOfBoundsException` if there is no such vertex (checked first)");
        Checks.vertices("reach", (y, vertex) -> y.reach(vertex));

        Sentences.say("Returns the number of moves; 0 if the target has a pebble already.");
        PebbleProofs has = Checks.made("vertices 2;edge 0 1;pile 0 1;pile 1 9");
        Checks.due("reach(0), one pebble", has.reach(0), 0);
        Checks.due("reach(1)", has.reach(1), 0);
        Checks.due("pebbles(1)", has.pebbles(1), 9);
        Checks.due("a change without effect", has.undoCount(), 2);
        has.take(0, 1);
        Checks.due("reach(0)", has.reach(0), 1);
        Checks.due("reach(0) of one vertex", Checks.made("vertices 1;pile 0 1").reach(0), 0);
        Checks.due("reach(5)", Checks.made(Checks.path(6) + ";pile 0 32").reach(5), 31);
        Checks.due("reach(0)", Checks.made(Checks.path(6) + ";pile 5 32").reach(0), 31);
        // It moves forth and back until 1 and 2 pebbles are left, of which only those on 1 reach the target.
        PebbleProofs most = Checks.made("vertices 3;edge 0 1 2;pile 0 998;pile 1 999");
        Checks.due("reach(2) by the most moves", most.reach(2), 1995);
        Checks.due("count(3)", most.count(3), 1995);
        Checks.due("pebbles(0)", most.pebbles(0), 1);
        Checks.due("pebbles(1)", most.pebbles(1), 0);
        Checks.due("pebbles(2)", most.pebbles(2), 1);
    }

    private static void reachRefused() {
        Sentences.say("Throws `IllegalStateException` if it is refused (section 6)");
        PebbleProofs far = Checks.made(Checks.path(6) + ";pile 0 31");
        Checks.refused("reach(5)", far, () -> far.reach(5), 6);
        Checks.due("pebbles(0)", far.pebbles(0), 31);
        Checks.due("count(3)", far.count(3), 0);
        Checks.due("undoCount()", far.undoCount(), 0);
        PebbleProofs none = Checks.made("vertices 1");
        Checks.refused("reach(0)", none, () -> none.reach(0), 6);
        PebbleProofs single = Checks.made("vertices 2;edge 0 1;pile 1 1");
        Checks.refused("reach(0)", single, () -> single.reach(0), 6);
    }

    private static void addStrategy() {
        Sentences.say("Adds a strategy for a target as the last one;", "Returns its number.");
        PebbleProofs x = Checks.made("vertices 3;edge 0 1 2;strategy 2 1 2 5");
        for (int number = 1; number < 6; number++) {
            Checks.due("addStrategy", x.addStrategy(number % 3), number);
            Checks.due("count(4)", x.count(4), number + 1);
            Checks.due("target", x.strategy(number, 0, 0), number % 3);
        }
        Checks.due("the first one stays", x.strategy(0, 1, 1), 5);
        Checks.due("undoCount()", x.undoCount(), 5);

        Sentences.say("all of its weights are 0, and no vertex has a parent.");
        PebbleProofs y = Checks.made(Checks.path(6) + ";strategy 5 0 1 2 1 2 4 2 3 8 3 4 16 4 5 32");
        y.dropStrategy(0);
        y.addStrategy(5);
        y.addStrategy(0);
        for (int v = 0; v < 6; v++) {
            Checks.due("weight", y.strategy(0, v, 1), 0);
            Checks.due("parent", y.strategy(0, v, 2), -1);
            Checks.due("weight", y.strategy(1, v, 1), 0);
            Checks.due("parent", y.strategy(1, v, 2), -1);
        }

        Sentences.say("- `target`: number of a vertex",
                "Throws `IndexOutOfBoundsException` if there is no such vertex (checked first)");
        Checks.vertices("addStrategy", (one, vertex) -> one.addStrategy(vertex));
        Checks.vertices("addStrategy to six", (one, vertex) -> {
            for (int i = 0; i < 5; i++) {
                one.addStrategy(0);
            }
            return one.addStrategy(vertex);
        });

        Sentences.say("Throws `IllegalStateException` if it is refused (section 6)");
        Checks.refused("addStrategy(0) to six", x, () -> x.addStrategy(0), 7);
        Checks.due("count(4)", x.count(4), 6);
        x.dropStrategy(2);
        Checks.call("addStrategy(0) to five", () -> x.addStrategy(0), 5);
    }

    private static void weigh() {
        Sentences.say("Sets the weight and the parent of a vertex in a strategy.");
        PebbleProofs x = Checks.made("vertices 3;edge 0 1 2;strategy 2 1 2 5;strategy 2 1 2 5;strategy 0");
        x.weigh(1, 1, 0, 6);
        x.weigh(1, 0, 1, 3);
        Checks.due("everything", Checks.view(x), Checks.view(Checks.made(
                "vertices 3;edge 0 1 2;strategy 2 1 2 5;strategy 2 1 0 6 0 1 3;strategy 0")));
        x.weigh(1, 1, 2, 0);
        Checks.due("a parent without a weight", x.strategy(1, 1, 2), 2);
        Checks.due("undoCount()", x.undoCount(), 3);

        Sentences.say("- `strategy`: number of a strategy", "- `vertex`: number of a vertex",
                "- `parent`: number of a vertex",
                "Throws `IndexOutOfBoundsException` if the strategy or one of the vertices does not exist (checked first)");
        for (int weight : new int[] {1, -1, 65}) {
            Checks.strategies("weigh of " + weight, (one, strategy) -> one.weigh(strategy, 1, 0, weight));
            Checks.strategies("weigh of the target", (one, strategy) -> one.weigh(strategy, 0, 0, weight));
            Checks.vertices("weigh of " + weight, (one, vertex) -> one.weigh(0, vertex, 0, weight));
            Checks.vertices("weigh with the target", (one, parent) -> one.weigh(0, 0, parent, weight));
        }
        Checks.vertices("weigh with a parent", (one, parent) -> one.count(0) == 1 && parent == 0 ? 0
                : one.weigh(0, one.count(0) - 1, parent, 1));
        PebbleProofs any = Checks.made(Checks.path(4) + ";strategy 0");
        Checks.call("the target as the parent", () -> any.weigh(0, 3, 0, 1), 0);
        Checks.call("the vertex itself as the parent", () -> any.weigh(0, 3, 3, 1), 1);
        Checks.call("no neighbour as the parent", () -> any.weigh(0, 3, 1, 1), 1);
    }

    private static void weighRefused() {
        Sentences.say("- `weight`: 0 to 64", "Returns the previous weight.");
        PebbleProofs x = Checks.made("vertices 3;edge 0 1 2;strategy 2 1 2 5;strategy 0");
        Checks.due("weigh(0, 1, 2, 64)", x.weigh(0, 1, 2, 64), 5);
        Checks.due("weigh(0, 1, 2, 0)", x.weigh(0, 1, 2, 0), 64);
        Checks.due("weigh(0, 1, 2, 1)", x.weigh(0, 1, 2, 1), 0);
        Checks.due("weigh(0, 1, 0, 63)", x.weigh(0, 1, 0, 63), 1);
        Checks.due("weigh(1, 1, 0, 63)", x.weigh(1, 1, 0, 63), 0);
        Checks.due("weigh(0, 0, 1, 63)", x.weigh(0, 0, 1, 63), 0);

        Sentences.say("Throws `IllegalArgumentException` if weight is out of range,");
        for (int weight : new int[] {-1, -64, 65, 66, 128, 999, LEAST, GREATEST}) {
            Checks.argument("weigh(0, 1, 2, " + weight + ")", () -> x.weigh(0, 1, 2, weight));
        }
        Checks.due("weight", x.strategy(0, 1, 1), 63);
        Checks.due("parent", x.strategy(0, 1, 2), 0);

        Sentences.say("or vertex is the target of the strategy");
        for (int weight : new int[] {0, 1, 64, 65, -1}) {
            Checks.argument("weigh(0, 2, 1, " + weight + ")", () -> x.weigh(0, 2, 1, weight));
            Checks.argument("weigh(1, 0, 1, " + weight + ")", () -> x.weigh(1, 0, 1, weight));
        }
        Checks.due("weight of the target", x.strategy(0, 2, 1), 0);
        Checks.due("parent of the target", x.strategy(0, 2, 2), -1);
        Checks.due("no refusal", x.reason(), 0);
        Checks.due("undoCount()", x.undoCount(), 6);
    }

    private static void dropStrategy() {
        Sentences.say("Removes a strategy; those behind it get numbers that are 1 less.");
        String start = "vertices 4;edge 0 1 2 3";
        String[] all = {";strategy 0 1 0 1", ";strategy 1 2 1 2", ";strategy 2 3 2 3", ";strategy 3 0 3 4",
            ";strategy 0 3 1 5", ";strategy 1 0 2 6"};
        for (int drop = 0; drop < 6; drop++) {
            PebbleProofs x = Checks.made(start + String.join("", all));
            Checks.due("dropStrategy(" + drop + ")", x.dropStrategy(drop), 5);
            StringBuilder left = new StringBuilder(start);
            for (int i = 0; i < 6; i++) {
                left.append(i == drop ? "" : all[i]);
            }
            Checks.due("the others", Checks.view(x), Checks.view(Checks.made(left.toString())));
            Checks.due("undoCount()", x.undoCount(), 1);
        }

        // Six strategies of six vertices.
        StringBuilder full = new StringBuilder(Checks.path(6));
        StringBuilder behind = new StringBuilder(Checks.path(6));
        for (int i = 0; i < 6; i++) {
            StringBuilder one = new StringBuilder(";strategy 3");
            for (int v = 0; v < 6; v++) {
                one.append(v == 3 ? "" : " " + v + " " + i + " " + (10 * i + v));
            }
            full.append(one);
            behind.append(i == 0 ? "" : one);
        }
        PebbleProofs six = Checks.made(full.toString());
        six.dropStrategy(0);
        Checks.due("five of six", Checks.view(six), Checks.view(Checks.made(behind.toString())));

        Sentences.say("Returns the number of strategies afterwards.");
        PebbleProofs y = Checks.made(start + String.join("", all));
        for (int left = 5; left >= 0; left--) {
            Checks.due("dropStrategy", y.dropStrategy(left / 2), left);
            Checks.due("count(4)", y.count(4), left);
        }

        Sentences.say("- `strategy`: number of a strategy",
                "Throws `IndexOutOfBoundsException` if there is no such strategy");
        Checks.strategies("dropStrategy", (one, strategy) -> one.dropStrategy(strategy));
        Checks.bounds("dropStrategy(0) of none", () -> y.dropStrategy(0));
        Checks.due("no refusal", y.reason(), 0);
    }
}
