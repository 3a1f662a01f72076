import java.util.Random;

/** Sections 4 and 5 and promises 37 to 45: each sentence and the boundaries that it names. */
final class SentencesOfProofs {
    private static final String COMPLETE = "vertices 6;edge 0 1 2 3 4 5;edge 0 2 4 0 3 5 0;edge 1 3;edge 2 5 1 4";
    private static final String STAR = "vertices 6;edge 1 0 2;edge 3 0 4;edge 0 5";

    private SentencesOfProofs() {
    }

    static void check() {
        Sentences.part("STRATEGIES");
        strategies();
        validity();
        whatValidOnesTell();
        bounds();
        Sentences.part("COVERS");
        covered();
        coverNumbers();
        Sentences.part("Promise 37");
        strategy();
        Sentences.part("Promise 38");
        wrong();
        Sentences.part("Promise 39");
        weight();
        Sentences.part("Promise 40");
        proves();
        Sentences.part("Promise 41");
        bound();
        boundRefused();
        Sentences.part("Promise 42");
        stack();
        Sentences.part("Promise 43");
        coverNumber();
        Sentences.part("Promise 44");
        canCover();
        Sentences.part("Promise 45");
        lacking();
    }

    // ---- Section 4

    private static void strategies() {
        Sentences.say("There are at most 6 strategies, numbered from 0.");
        PebbleProofs x = new PebbleProofs();
        Checks.bounds("strategy(0, 0, 0) of none", () -> x.strategy(0, 0, 0));
        for (int s = 0; s < 6; s++) {
            Checks.due("addStrategy", x.addStrategy(s % 3), s);
            Checks.due("strategy", x.strategy(s, 0, 0), s % 3);
            int behind = s + 1;
            Checks.bounds("strategy of the next", () -> x.strategy(behind, 0, 0));
        }
        Checks.refused("addStrategy(0)", x, () -> x.addStrategy(0), 7);
        Checks.due("six in a text", Checks.made("vertices 1" + ";strategy 0".repeat(6)).count(4), 6);
        Checks.due("seven in a text", Checks.errorIn("vertices 1" + ";strategy 0".repeat(7)), 77);

        Sentences.say("A strategy has a target, and for each other vertex a weight and possibly a parent.");
        PebbleProofs y = Checks.made("vertices 3;edge 0 1 2;strategy 1 0 1 5");
        Checks.due("target", y.strategy(0, 0, 0), 1);
        Checks.due("weight", y.strategy(0, 0, 1), 5);
        Checks.due("parent", y.strategy(0, 0, 2), 1);
        Checks.due("weight", y.strategy(0, 2, 1), 0);
        Checks.due("no parent", y.strategy(0, 2, 2), -1);

        Sentences.say("(The weight of the target is 0.)");
        Checks.due("weight of the target", y.strategy(0, 1, 1), 0);
        Checks.due("parent of the target", y.strategy(0, 1, 2), -1);
        Checks.argument("weigh of the target", () -> y.weigh(0, 1, 0, 1));
        y.put(1, 99);
        Checks.due("pebbles on the target", y.weight(0, true), 0);
    }

    private static void fault(String statements, int vertex) {
        PebbleProofs x = Checks.made("vertices 5;edge 0 1 2 3 4;edge 1 3;" + statements);
        Checks.due("wrong(0) in " + statements, x.wrong(0), vertex);
    }

    private static void validity() {
        Sentences.say("It is valid if for each vertex with a weight greater than 0:");
        fault("strategy 0", -1);
        fault("strategy 0 4 1 0", -1);
        fault("strategy 0 4 1 1", 4);
        fault("strategy 0 1 0 4 2 4 0 3 1 2", -1);
        fault("strategy 0 1 0 4 2 4 1 3 1 2", 2);

        Sentences.say("it has a parent, which is a neighbour of it;");
        fault("strategy 0 1 0 4 3 1 2", -1);
        fault("strategy 0 1 0 4 4 1 2", 4);
        fault("strategy 0 2 0 4", 2);
        fault("strategy 0 1 1 4", 1);
        fault("strategy 4 0 0 1", 0);

        Sentences.say("and the parent is the target,");
        fault("strategy 0 1 0 1", -1);
        fault("strategy 0 1 0 64", -1);
        fault("strategy 1 0 1 64 2 1 63 3 1 1", -1);
        fault("strategy 1 4 1 1", 4);

        Sentences.say("or has at least twice the weight of the vertex.");
        for (int weight = 1; weight <= 64; weight++) {
            fault("strategy 0 1 0 " + weight + " 2 1 " + weight / 2, -1);
            if (weight < 64) {
                fault("strategy 0 1 0 " + weight + " 2 1 " + (weight / 2 + 1), 2);
            }
        }
        fault("strategy 0 1 0 64 2 1 32 3 2 16 4 3 8", -1);
        fault("strategy 0 1 0 64 2 1 32 3 2 17 4 3 8", 3);
        fault("strategy 0 1 0 64 2 1 32 3 2 16 4 3 9", 4);
        fault("strategy 0 2 1 1", 2);
        fault("strategy 0 2 3 4 3 2 4", 2);
        fault("strategy 0 2 3 8 3 2 4", 2);
        fault("strategy 0 2 3 4 3 2 8", 3);
    }

    /** A valid strategy of some edges that lead to the target, weights by chance. */
    private static String anyStrategy(PebbleProofs graph, int target, Random random) {
        int n = graph.count(0);
        int[] weight = new int[n];
        StringBuilder text = new StringBuilder(";strategy " + target);
        for (int far = 1; far < n; far++) {
            for (int v = 0; v < n; v++) {
                int w = random.nextInt(n);
                if (graph.distance(v, target) == far && graph.isEdge(v, w) && graph.distance(w, target) < far) {
                    weight[v] = w == target ? random.nextInt(65) : weight[w] / 2 - random.nextInt(2) * weight[w] / 8;
                    text.append(' ').append(v).append(' ').append(w).append(' ').append(weight[v]);
                }
            }
        }
        return text.toString();
    }

    private static void whatValidOnesTell() {
        Sentences.say("(If a strategy is valid, and a pile does not reach its target, then the sum of weight * pebbles"
                + " over all vertices is not greater than the sum of the weights.)");
        String[] graphs = {Checks.path(6), STAR, COMPLETE, "vertices 6;edge 0 1 2 3 4 5 0", "vertices 5;edge 0 1 2 3 0 4",
            "vertices 6;edge 0 1 2 3 4 5 0;edge 1 4", "vertices 4;edge 0 1 2 0 3", "vertices 2;edge 0 1"};
        Random random = new Random(5);
        int bounds = 0;
        int proofs = 0;
        for (int i = 0; i < 2000; i++) {
            String graph = graphs[i % graphs.length];
            PebbleProofs bare = Checks.made(graph);
            int target = random.nextInt(bare.count(0));
            StringBuilder text = new StringBuilder(graph);
            for (int s = 0; s < 5; s++) {
                text.append(anyStrategy(bare, target, random));
            }
            for (int v = 0; v < bare.count(0); v++) {
                text.append(";pile ").append(v).append(' ').append(v == target ? 0 : random.nextInt(8));
            }
            PebbleProofs x = Checks.made(text.toString());
            for (int s = 0; s < 5; s++) {
                Checks.due("wrong(" + s + ") in " + text, x.wrong(s), -1);
                boolean more = x.weight(s, true) > x.weight(s, false);
                Checks.due("proves(" + s + ") in " + text, x.proves(s), more);
                Checks.due("reached in " + text, x.isReachable(target) || !more, true);
                proofs += more ? 1 : 0;
            }
            if (Checks.answer(() -> x.bound(target)) instanceof Integer bound) {
                Checks.due("bound(" + target + ") in " + text, bound >= x.number(target), true);
                bounds++;
            }
        }
        Checks.due("there were such strategies", bounds > 100 && proofs > 100, true);
    }

    private static void bound(String text, int target, Object due) {
        PebbleProofs x = Checks.made(text);
        Checks.call("bound(" + target + ") in " + text, () -> x.bound(target), due);
    }

    private static void bounds() {
        Sentences.say("For the bound of a target, the weights of all of its valid strategies are added for each vertex.");
        String path = "vertices 3;edge 0 1 2";
        bound(path + ";strategy 2 1 2 2 0 1 1", 2, 4);
        bound(path + ";strategy 2 1 2 2 0 1 1;strategy 2 1 2 1", 2, 5);
        bound(path + ";strategy 2 1 2 2 0 1 1;strategy 2 1 2 2 0 1 1", 2, 4);
        // One that is not valid, and one of another target.
        bound(path + ";strategy 2 1 2 2 0 1 1;strategy 2 1 2 1 0 1 1", 2, 4);
        bound(path + ";strategy 2 1 2 2 0 1 1;strategy 0 1 0 64", 2, 4);
        // None has a weight for each vertex alone.
        bound("vertices 3;edge 1 0 2;strategy 0 1 0 3;strategy 0 2 0 1", 0, 5);

        Sentences.say("If m is the least such sum of all vertices other than the target (1 for a graph with one vertex),"
                + " and s is the sum of all of them, the bound is s / m + 1, rounded down.");
        bound("vertices 1", 0, 1);
        bound("vertices 1" + ";strategy 0".repeat(6), 0, 1);
        bound(path + ";strategy 2 1 2 5 0 1 2", 2, 4);
        bound(path + ";strategy 2 1 2 6 0 1 2", 2, 5);
        bound(path + ";strategy 2 1 2 7 0 1 2", 2, 5);
        bound(path + ";strategy 2 1 2 64 0 1 32", 2, 4);
        bound(path + ";strategy 2 1 2 64 0 1 1", 2, 66);
        bound("vertices 3;edge 0 1 2;strategy 1 0 1 64 2 1 1", 1, 66);
        bound("vertices 3;edge 0 1 2;strategy 1 0 1 1 2 1 64", 1, 66);
        bound("vertices 2;edge 0 1" + ";strategy 1 0 1 64".repeat(6), 1, 2);
        bound(STAR + ";strategy 0 1 0 64 2 0 64 3 0 64 4 0 64 5 0 1".repeat(6), 0, 258);
        bound(STAR + ";strategy 0 1 0 1 2 0 1 3 0 1 4 0 1 5 0 1", 0, 6);
    }

    // ---- Section 5

    private static void covers(String text, int lacking) {
        PebbleProofs x = Checks.made(text);
        Checks.call("lacking() in " + text, () -> x.lacking(), lacking);
        Checks.call("canCover() in " + text, () -> x.canCover(), lacking == 0);
    }

    private static void covered() {
        Sentences.say("The graph is covered if each vertex has a pebble;");
        for (int n = 1; n <= 6; n++) {
            StringBuilder text = new StringBuilder(Checks.path(n));
            for (int v = 0; v < n; v++) {
                covers(text.toString(), n - v);
                text.append(";pile ").append(v).append(" 1");
            }
            covers(text.toString(), 0);
        }

        Sentences.say("it can be covered if it is, or can be after some moves.");
        covers("vertices 2;edge 0 1;pile 0 2", 1);
        covers("vertices 2;edge 0 1;pile 0 3", 0);
        covers("vertices 3;edge 0 1 2;pile 0 6", 1);
        covers("vertices 3;edge 0 1 2;pile 0 7", 0);
        covers("vertices 3;edge 0 1 2;pile 0 3;pile 2 1", 0);
        covers("vertices 3;edge 0 1 2;pile 0 2;pile 2 1", 1);
        // A move may take the last pebbles of a vertex.
        covers("vertices 4;edge 0 1 2 3;pile 1 2;pile 2 2", 2);
        covers("vertices 4;edge 0 1 2 3;pile 1 3;pile 2 3", 0);
    }

    private static void coverNumbers() {
        Sentences.say("If all pebbles lie on one vertex, as many are needed for a cover as the sum of 2 to the power of its"
                + " distance over all vertices (itself included).");
        String[] graphs = {"vertices 1", "vertices 2;edge 0 1", "vertices 3;edge 0 1 2", "vertices 3;edge 0 1 2 0",
            "vertices 4;edge 1 0 2;edge 0 3", "vertices 4;edge 0 1 2 3 0", "vertices 5;edge 0 1 2 3 4 0", COMPLETE,
            "vertices 4;edge 0 1 2 0 3"};
        for (String graph : graphs) {
            PebbleProofs x = Checks.made(graph);
            for (int v = 0; v < x.count(0); v++) {
                int needed = x.stack(v);
                if (needed <= 14) {
                    Checks.due("canCover() by a stack", Checks.made(graph + ";pile " + v + " " + needed).canCover(), true);
                    Checks.due("canCover() by one less",
                            Checks.made(graph + ";pile " + v + " " + (needed - 1)).canCover(), false);
                }
            }
        }

        Sentences.say("The cover number is the greatest of these numbers: so many pebbles cover the graph wherever they lie.");
        for (String graph : graphs) {
            PebbleProofs x = Checks.made(graph);
            int greatest = 0;
            for (int v = 0; v < x.count(0); v++) {
                greatest = Math.max(greatest, x.stack(v));
            }
            Checks.due("coverNumber() in " + graph, x.coverNumber(), greatest);
            if (greatest <= 14 && x.count(0) < 6) {
                coverWhereverTheyLie(graph, 0, x.count(0), greatest);
            }
        }
    }

    private static void coverWhereverTheyLie(String text, int vertex, int vertices, int left) {
        for (int k = vertex == vertices - 1 ? left : 0; k <= left; k++) {
            String more = text + ";pile " + vertex + " " + k;
            if (vertex == vertices - 1) {
                Checks.due("canCover() in " + more, Checks.made(more).canCover(), true);
            } else {
                coverWhereverTheyLie(more, vertex + 1, vertices, left - k);
            }
        }
    }

    // ---- Promises 37 to 41

    private static void strategy() {
        Sentences.say("Returns a part of a strategy.", "Returns that part.",
                "- `what`: 0 its target (whatever the vertex), 1 the weight of the vertex, 2 its parent (NONE if it has none)");
        PebbleProofs x = Checks.made(Checks.path(6) + ";strategy 5 0 1 64 4 5 1 3 3 0;strategy 0;strategy 3 2 5 7");
        int[][][] due = {{{64, 1}, {0, -1}, {0, -1}, {0, 3}, {1, 5}, {0, -1}},
            {{0, -1}, {0, -1}, {0, -1}, {0, -1}, {0, -1}, {0, -1}},
            {{0, -1}, {0, -1}, {7, 5}, {0, -1}, {0, -1}, {0, -1}}};
        int[] targets = {5, 0, 3};
        for (int s = 0; s < 3; s++) {
            for (int v = 0; v < 6; v++) {
                Checks.due("target", x.strategy(s, v, 0), targets[s]);
                Checks.due("weight", x.strategy(s, v, 1), due[s][v][0]);
                Checks.due("parent", x.strategy(s, v, 2), due[s][v][1]);
            }
        }

        Sentences.say("- `strategy`: number of a strategy", "- `vertex`: number of a vertex",
                "Throws `IndexOutOfBoundsException` if the strategy or the vertex does not exist (checked first)");
        for (int what = -1; what <= 3; what++) {
            int part = what;
            Checks.strategies("strategy, " + what, (one, number) -> one.strategy(number, 0, part));
            Checks.vertices("strategy, " + what, (one, vertex) -> one.strategy(0, vertex, part));
        }

        Sentences.say("Throws `IllegalArgumentException` if what is out of range");
        for (int what : new int[] {-1, -2, 3, 4, 256, Integer.MIN_VALUE, Integer.MAX_VALUE}) {
            Checks.argument("strategy(0, 0, " + what + ")", () -> x.strategy(0, 0, what));
        }
    }

    private static void wrong() {
        Sentences.say("Returns the lowest vertex that makes a strategy not valid.",
                "Returns the vertex; NONE if the strategy is valid.");
        fault("strategy 4", -1);
        fault("strategy 4 0 1 1 1 0 1 2 0 1 3 0 1", 0);
        fault("strategy 0 4 3 1 3 2 1", 3);
        fault("strategy 0 1 0 9 4 3 1", 4);
        fault("strategy 0 4 4 64", 4);
        PebbleProofs ring = Checks.made("vertices 4;edge 0 1 2 3 0;strategy 0 1 0 4 2 1 2 3 2 1");
        Checks.due("wrong(0)", ring.wrong(0), -1);
        ring.removeEdge(2, 3);
        Checks.due("wrong(0) without an edge", ring.wrong(0), 3);
        ring.undo();
        Checks.due("wrong(0) with it again", ring.wrong(0), -1);
        ring.weigh(0, 1, 0, 3);
        Checks.due("wrong(0) with less on the parent", ring.wrong(0), 2);

        Sentences.say("- `strategy`: number of a strategy",
                "Throws `IndexOutOfBoundsException` if there is no such strategy");
        Checks.strategies("wrong", (one, strategy) -> one.wrong(strategy));
    }

    private static void weight() {
        Sentences.say("Returns a weight of a strategy.", "Returns that sum.",
                "- `pebbles`: true for the sum of weight * pebbles over all vertices, false for the sum of the weights");
        PebbleProofs x = Checks.made(Checks.path(6) + ";pile 0 999;pile 1 999;pile 2 999;pile 3 999;pile 4 999;pile 5 999"
                + ";strategy 5 0 1 64 1 2 64 2 3 64 3 4 64 4 5 64;strategy 5;strategy 0 5 4 3");
        Checks.due("weight(0, false)", x.weight(0, false), 320);
        Checks.due("weight(0, true)", x.weight(0, true), 319680);
        Checks.due("weight(1, false)", x.weight(1, false), 0);
        Checks.due("weight(1, true)", x.weight(1, true), 0);
        Checks.due("weight(2, false)", x.weight(2, false), 3);
        Checks.due("weight(2, true)", x.weight(2, true), 2997);
        x.take(5, 99);
        Checks.due("weight(2, true)", x.weight(2, true), 2700);
        Checks.due("weight(0, true), pebbles on the target", x.weight(0, true), 319680);
        // Also of a strategy that is not valid.
        Checks.due("wrong(0)", x.wrong(0), 0);
        PebbleProofs none = Checks.made("vertices 2;edge 0 1;strategy 1 0 1 5");
        Checks.due("weight(0, true) without pebbles", none.weight(0, true), 0);
        Checks.due("weight(0, false) without pebbles", none.weight(0, false), 5);

        Sentences.say("- `strategy`: number of a strategy",
                "Throws `IndexOutOfBoundsException` if there is no such strategy");
        Checks.strategies("weight", (one, strategy) -> one.weight(strategy, true));
        Checks.strategies("weight", (one, strategy) -> one.weight(strategy, false));
    }

    private static void proves() {
        Sentences.say("Tells whether a strategy proves that its target can be reached now: it is valid,",
                "Returns true if so.");
        PebbleProofs x = Checks.made("vertices 3;edge 0 1 2;pile 0 9;strategy 2 1 2 2 0 1 1");
        Checks.due("proves(0)", x.proves(0), true);
        x.weigh(0, 0, 1, 2);
        Checks.due("proves(0), not valid", x.proves(0), false);
        x.weigh(0, 0, 2, 1);
        Checks.due("proves(0), not valid", x.proves(0), false);

        Sentences.say("and the weight of the pebbles is greater than the sum of the weights.");
        for (int pebbles = 0; pebbles <= 6; pebbles++) {
            PebbleProofs y = Checks.made("vertices 3;edge 0 1 2;pile 0 " + pebbles + ";strategy 2 1 2 2 0 1 1;strategy 2");
            Checks.due("proves(0) with " + pebbles, y.proves(0), pebbles > 3);
            Checks.due("proves(1), without weights", y.proves(1), false);
        }
        PebbleProofs full = Checks.made("vertices 2;edge 0 1;pile 0 999;strategy 0 1 0 5");
        Checks.due("pebbles on the target alone", full.proves(0), false);
        Checks.due("it is reached all the same", full.isReachable(0), true);

        Sentences.say("- `strategy`: number of a strategy",
                "Throws `IndexOutOfBoundsException` if there is no such strategy");
        Checks.strategies("proves", (one, strategy) -> one.proves(strategy));
    }

    private static void bound() {
        Sentences.say("Returns the bound by all valid strategies of a target.");
        bound(STAR + ";strategy 5 0 5 4 1 0 2 2 0 2 3 0 2 4 0 2", 5, 7);
        bound(STAR + ";strategy 5 0 5 4 1 0 2 2 0 2 3 0 2 4 0 2;strategy 5 0 5 4 1 0 3", 5, 7);
        bound(STAR + ";strategy 5 0 5 4 1 0 2 2 0 2 3 0 2 4 0 2;strategy 5 0 5 4 1 0 2", 5, 10);
        bound("vertices 2;edge 0 1;strategy 0 1 0 1", 0, 2);

        Sentences.say("Returns the bound, which is not less than number().");
        PebbleProofs x = Checks.made(STAR + ";strategy 5 0 5 4 1 0 2 2 0 2 3 0 2 4 0 2");
        Checks.due("number(5)", x.number(5), 7);
        Checks.due("number(0) of one vertex", Checks.made("vertices 1").number(0), 1);

        Sentences.say("- `target`: number of a vertex",
                "Throws `IndexOutOfBoundsException` if there is no such vertex (checked first)");
        Checks.vertices("bound", (one, vertex) -> one.bound(vertex));
    }

    private static void boundRefused() {
        Sentences.say("Throws `NoSuchElementException` if some vertex other than the target has no weight in all of them together");
        String none = "NoSuchElementException";
        String path = "vertices 3;edge 0 1 2";
        bound(path, 0, none);
        bound("vertices 2;edge 0 1", 1, none);
        bound(path + ";strategy 2", 2, none);
        bound(path + ";strategy 2 1 2 64", 2, none);
        bound(path + ";strategy 2 1 2 64 0 1 0", 2, none);
        bound(path + ";strategy 2 1 2 64 0 1 1", 2, 66);
        bound(path + ";strategy 2 1 2 64 0 1 1", 0, none);
        bound(path + ";strategy 2 1 2 64 0 1 1", 1, none);
        // The only weight of vertex 0 is in a strategy that is not valid, or that is for another target.
        bound(path + ";strategy 2 1 2 4;strategy 2 0 1 1", 2, none);
        bound(path + ";strategy 2 1 2 4;strategy 1 0 1 1", 2, none);
        bound(path + ";strategy 2 1 2 4;strategy 2 1 2 2 0 1 1", 2, 8);
        bound(COMPLETE + ";strategy 0 1 0 1 2 0 1 3 0 1 4 0 1", 0, none);
        bound(COMPLETE + ";strategy 0 1 0 1 2 0 1 3 0 1 4 0 1;strategy 0 5 0 1", 0, 6);
        PebbleProofs ring = Checks.made("vertices 3;edge 0 1 2 0;strategy 0 1 0 1 2 0 1");
        Checks.call("bound(0)", () -> ring.bound(0), 3);
        ring.removeEdge(0, 2);
        Checks.noElement("bound(0), not valid without an edge", () -> ring.bound(0));
        Checks.due("no refusal", ring.reason(), 0);
    }

    // ---- Promises 42 to 45

    private static void stacks(String text, int... due) {
        PebbleProofs x = Checks.made(text);
        for (int v = 0; v < due.length; v++) {
            Checks.due("stack(" + v + ") in " + text, x.stack(v), due[v]);
        }
    }

    private static void stack() {
        Sentences.say("Returns how many pebbles on a vertex, with no others, are needed to cover the graph.",
                "Returns their number.");
        stacks("vertices 1", 1);
        stacks("vertices 2;edge 0 1", 3, 3);
        stacks(Checks.path(3), 7, 5, 7);
        stacks(Checks.path(6), 63, 33, 21, 21, 33, 63);
        stacks(COMPLETE, 11, 11, 11, 11, 11, 11);
        stacks(STAR, 11, 19, 19, 19, 19, 19);
        // Whatever lies there now.
        stacks("vertices 3;edge 0 1 2;pile 0 999;pile 1 1", 7, 5, 7);

        Sentences.say("- `vertex`: number of a vertex",
                "Throws `IndexOutOfBoundsException` if there is no such vertex");
        Checks.vertices("stack", (one, vertex) -> one.stack(vertex));
    }

    private static void coverNumber() {
        Sentences.say("Returns the cover number.", "Returns the number.");
        for (int n = 1; n <= 6; n++) {
            Checks.due("coverNumber()", Checks.made(Checks.path(n)).coverNumber(), (1 << n) - 1);
        }
        Checks.due("coverNumber()", Checks.made(COMPLETE).coverNumber(), 11);
        Checks.due("coverNumber()", Checks.made(STAR).coverNumber(), 19);
        // That of neither the first nor the last vertex.
        Checks.due("coverNumber()", Checks.made("vertices 4;edge 1 0 3 2").coverNumber(), 15);
        PebbleProofs x = new PebbleProofs();
        x.addEdge(0, 2);
        Checks.due("coverNumber() behind an edge", x.coverNumber(), 5);
    }

    private static final String[] FOURTEEN = {";pile 0 14", ";pile 3 14", ";pile 0 7;pile 1 7", ";pile 0 13;pile 3 1",
        ";pile 0 4;pile 1 4;pile 2 3;pile 3 3"};

    private static void canCover() {
        Sentences.say("Tells whether the graph can be covered with the pebbles as they are.", "Returns true if so.");
        PebbleProofs x = Checks.made("vertices 3;edge 0 1 2;pile 0 7");
        Checks.call("canCover() with 7", () -> x.canCover(), true);
        x.move(0, 1);
        Checks.call("canCover() behind a move", () -> x.canCover(), true);
        x.take(0, 1);
        Checks.call("canCover() with one less", () -> x.canCover(), false);
        x.undo();
        Checks.call("canCover() behind undo()", () -> x.canCover(), true);
        Checks.call("canCover()", () -> Checks.made("vertices 1").canCover(), false);
        Checks.call("canCover()", () -> Checks.made("vertices 1;pile 0 14").canCover(), true);

        Sentences.say("Throws `UnsupportedOperationException` if there are more than 14 pebbles");
        for (String piles : FOURTEEN) {
            PebbleProofs y = Checks.made(Checks.path(4) + piles);
            Checks.due("canCover() with 14", Checks.answer(() -> y.canCover()) instanceof Boolean, true);
            for (int v = 0; v < 4; v++) {
                y.put(v, 1);
                Checks.unsupported("canCover() with 15", () -> y.canCover());
                y.undo();
            }
        }
        Checks.unsupported("canCover() of what is covered",
                () -> Checks.made("vertices 2;edge 0 1;pile 0 14;pile 1 1").canCover());
        Checks.unsupported("canCover() of one vertex", () -> Checks.made("vertices 1;pile 0 15").canCover());
        Checks.unsupported("canCover() with 5994", () -> Checks.made(
                Checks.path(6) + ";pile 0 999;pile 1 999;pile 2 999;pile 3 999;pile 4 999;pile 5 999").canCover());
    }

    private static void lacking() {
        Sentences.say("Returns how many vertices at least have no pebble, whatever moves are made.",
                "Returns the least number of vertices without pebbles, over all piles that can come of the present one.");
        for (int n = 1; n <= 6; n++) {
            covers(Checks.path(n), n);
            covers(Checks.path(n) + ";pile 0 1", n - 1);
        }
        covers(Checks.path(6) + ";pile 0 14", 3);
        covers(Checks.path(6) + ";pile 2 14", 1);
        covers(Checks.path(6) + ";pile 1 7;pile 4 7", 0);
        covers(COMPLETE + ";pile 0 10", 1);
        covers(COMPLETE + ";pile 0 11", 0);
        // Each move would leave more vertices without pebbles.
        covers("vertices 3;edge 0 1 2;pile 0 2;pile 1 1", 1);
        covers("vertices 3;edge 0 1 2;pile 0 2;pile 1 1;pile 2 2", 0);

        Sentences.say("Throws `UnsupportedOperationException` if there are more than 14 pebbles");
        for (String piles : FOURTEEN) {
            PebbleProofs y = Checks.made(Checks.path(4) + piles);
            Checks.due("lacking() with 14", Checks.answer(() -> y.lacking()) instanceof Integer, true);
            for (int v = 0; v < 4; v++) {
                y.put(v, 1);
                Checks.unsupported("lacking() with 15", () -> y.lacking());
                y.undo();
            }
        }
        Checks.unsupported("lacking() of one vertex", () -> Checks.made("vertices 1;pile 0 15").lacking());
    }
}
