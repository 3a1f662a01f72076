import java.util.ArrayList;
import java.util.Arrays;
import java.util.List;

/** Section 3 and promises 26 to 36: each sentence and the boundaries that it names. */
final class SentencesOfTargets {
    private static final String COMPLETE = "vertices 6;edge 0 1 2 3 4 5;edge 0 2 4 0 3 5 0;edge 1 3;edge 2 5 1 4";
    private static final String STAR = "vertices 6;edge 1 0 2;edge 3 0 4;edge 0 5";
    private static final String[] SMALL = {"vertices 1", "vertices 2;edge 0 1", "vertices 3;edge 0 1 2",
        "vertices 3;edge 0 1 2 0", "vertices 4;edge 0 1 2 3 0", "vertices 4;edge 1 0 2;edge 0 3",
        "vertices 4;edge 3 1 0 2", "vertices 4;edge 0 1 2 0 3", "vertices 5;edge 0 1 2 3 4 0"};

    private SentencesOfTargets() {
    }

    static void check() {
        Sentences.part("TARGETS");
        reached();
        worstPilesOfSmallGraphs();
        lexicographic();
        trees();
        Sentences.part("Promise 26");
        isReachable();
        Sentences.part("Promise 27");
        reachable();
        Sentences.part("Promise 28");
        next();
        nextRefused();
        Sentences.part("Promise 29");
        fewest();
        fewestRefused();
        Sentences.part("Promise 30");
        ahead();
        Sentences.part("Promise 31");
        number();
        Sentences.part("Promise 32");
        graphNumber();
        Sentences.part("Promise 33");
        worst();
        Sentences.part("Promise 34");
        worstPiles();
        Sentences.part("Promise 35");
        failing();
        Sentences.part("Promise 36");
        treeNumber();
    }

    // ---- Piles, tried out move by move

    private static boolean[][] edges(String graph) {
        PebbleProofs x = Checks.made(graph);
        boolean[][] edge = new boolean[x.count(0)][x.count(0)];
        for (int v = 0; v < edge.length; v++) {
            for (int w = 0; w < edge.length; w++) {
                edge[v][w] = x.isEdge(v, w);
            }
        }
        return edge;
    }

    private static boolean reaches(boolean[][] edge, int[] pile, int target) {
        if (pile[target] > 0) {
            return true;
        }
        for (int v = 0; v < pile.length; v++) {
            for (int w = 0; w < pile.length && pile[v] > 1; w++) {
                if (edge[v][w]) {
                    int[] then = pile.clone();
                    then[v] -= 2;
                    then[w]++;
                    if (reaches(edge, then, target)) {
                        return true;
                    }
                }
            }
        }
        return false;
    }

    private static void add(List<int[]> piles, int[] begun, int vertex, int left) {
        if (vertex == begun.length - 1) {
            int[] pile = begun.clone();
            pile[vertex] = left;
            piles.add(pile);
            return;
        }
        for (int k = 0; k <= left; k++) {
            begun[vertex] = k;
            add(piles, begun, vertex + 1, left - k);
        }
    }

    /** All piles with so many pebbles, in lexicographic order. */
    private static List<int[]> piles(int vertices, int pebbles) {
        List<int[]> all = new ArrayList<>();
        add(all, new int[vertices], 0, pebbles);
        return all;
    }

    private static String text(String graph, int[] pile) {
        StringBuilder text = new StringBuilder(graph);
        for (int v = 0; v < pile.length; v++) {
            text.append(";pile ").append(v).append(' ').append(pile[v]);
        }
        return text.toString();
    }

    private static int[] worstOf(PebbleProofs x, int target) {
        int[] pile = new int[x.count(0)];
        for (int v = 0; v < pile.length; v++) {
            pile[v] = x.worst(target, v);
        }
        return pile;
    }

    // ---- Section 3

    private static void reached() {
        Sentences.say("A target can be reached if it has a pebble, or can have one after some moves.");
        for (int n = 1; n <= 6; n++) {
            for (int v = 0; v < n; v++) {
                Checks.due("it has a pebble", Checks.made(Checks.path(n) + ";pile " + v + " 1").isReachable(v), true);
                Checks.due("no pebbles", Checks.made(Checks.path(n)).isReachable(v), false);
            }
        }
        PebbleProofs x = Checks.made("vertices 3;edge 0 1 2;pile 0 1;pile 2 1");
        Checks.due("no move", x.isReachable(1), false);
        x.put(2, 1);
        Checks.due("one move", x.isReachable(1), true);
        Checks.due("three moves", Checks.made("vertices 3;edge 0 1 2;pile 2 4").isReachable(0), true);
        Checks.due("beside full vertices",
                Checks.made("vertices 4;edge 0 1 2 3;pile 0 999;pile 1 999;pile 2 999").isReachable(3), true);

        Sentences.say("(A vertex with 2 to the power d pebbles reaches a target at the distance d.)");
        for (int d = 0; d < 6; d++) {
            for (int pebbles : new int[] {1 << d, (1 << d) - 1, 999}) {
                PebbleProofs y = Checks.made(Checks.path(6) + ";pile 0 " + pebbles);
                Checks.due(pebbles + " pebbles to " + d, y.isReachable(d), pebbles >= 1 << d);
                PebbleProofs z = Checks.made(Checks.path(6) + ";pile 5 " + pebbles);
                Checks.due(pebbles + " pebbles to " + (5 - d), z.isReachable(5 - d), pebbles >= 1 << d);
            }
        }
    }

    private static void worstPilesOfSmallGraphs() {
        Sentences.say("The pebbling number of a target is the least number P such that each pile with P pebbles reaches it.",
                "A worst pile of a target is a pile with P - 1 pebbles that does not reach it.");
        for (String graph : SMALL) {
            boolean[][] edge = edges(graph);
            for (int target = 0; target < edge.length; target++) {
                worstPilesIn(graph, edge, target);
            }
        }
    }

    private static void worstPilesIn(String graph, boolean[][] edge, int target) {
        String call = "(" + target + ") in " + graph;
        int number = Checks.made(graph).number(target);
        for (int pebbles = 0; pebbles <= number + 1; pebbles++) {
            List<int[]> failing = new ArrayList<>();
            for (int[] pile : piles(edge.length, pebbles)) {
                boolean reached = reaches(edge, pile, target);
                if (!reached) {
                    failing.add(pile);
                }
                Checks.due("isReachable" + call, Checks.made(text(graph, pile)).isReachable(target), reached);
            }
            Checks.due("failing" + call, Checks.made(graph).failing(target, pebbles), failing.size());
            Checks.due("number" + call, failing.isEmpty(), pebbles >= number);
            if (pebbles == number - 1 && !failing.isEmpty()) {
                Checks.due("worstPiles" + call, Checks.made(graph).worstPiles(target), failing.size());
                Checks.due("the first worst pile" + call, Arrays.toString(worstOf(Checks.made(graph), target)),
                        Arrays.toString(failing.get(0)));
            }
        }
    }

    private static void firstWorst(String graph, int target, int... pile) {
        Checks.due("the first worst pile of " + target + " in " + graph,
                Arrays.toString(worstOf(Checks.made(graph), target)), Arrays.toString(pile));
    }

    private static void lexicographic() {
        Sentences.say("The first worst pile is the one that comes first in lexicographic order"
                + " (the pebbles on vertex 0 are compared first; fewer come first).");
        firstWorst("vertices 4;edge 0 1 2 3 0", 2, 1, 1, 0, 1);
        firstWorst("vertices 4;edge 0 1 2 3 0", 0, 0, 0, 3, 0);
        firstWorst(STAR, 5, 0, 1, 1, 1, 3, 0);
        firstWorst(STAR, 1, 0, 0, 1, 1, 1, 3);
        firstWorst(STAR, 0, 0, 1, 1, 1, 1, 1);
        firstWorst("vertices 5;edge 0 1 2 3 4 0", 0, 0, 0, 1, 3, 0);
        firstWorst("vertices 5;edge 0 1 2 3 4 0", 2, 0, 1, 0, 0, 3);
        firstWorst("vertices 6;edge 0 1 2 3 4 5 0", 3, 5, 1, 0, 0, 0, 1);
        firstWorst("vertices 6;edge 0 1 2 3 4 5 0", 0, 0, 0, 0, 7, 0, 0);
        firstWorst(COMPLETE, 0, 0, 1, 1, 1, 1, 1);
        firstWorst(Checks.path(6), 0, 0, 0, 0, 0, 0, 31);
        firstWorst(Checks.path(6), 2, 3, 0, 0, 0, 0, 7);
        firstWorst("vertices 1", 0, 0);
    }

    private static void tree(String graph, int... numbers) {
        for (int v = 0; v < numbers.length; v++) {
            PebbleProofs x = Checks.made(graph);
            Checks.due("treeNumber(" + v + ") in " + graph, x.treeNumber(v), numbers[v]);
            Checks.due("number(" + v + ") in " + graph, x.number(v), numbers[v]);
        }
    }

    private static void trees() {
        Sentences.say("In a tree, the pebbling number of a target can be told by paths: first a longest path that begins"
                + " at the target is taken;");
        tree(Checks.path(6), 32, 17, 11, 11, 17, 32);
        tree(Checks.path(5), 16, 9, 7, 9, 16);
        tree(Checks.path(4), 8, 5, 5, 8);
        tree(Checks.path(3), 4, 3, 4);
        tree(Checks.path(2), 2, 2);

        Sentences.say("then, as long as there are edges that were not taken, a longest path of such edges that begins at a"
                + " vertex of a path that was taken (and leads away from the target).");
        tree(STAR, 6, 7, 7, 7, 7, 7);
        // Legs of 2, 2 and 1 edges; two forks; a path with two leaves beside each other.
        tree("vertices 6;edge 2 1 0 3 4;edge 0 5", 8, 10, 17, 10, 17, 11);
        tree("vertices 6;edge 0 1 2 3;edge 1 4;edge 2 5", 10, 7, 7, 10, 10, 10);
        tree("vertices 6;edge 0 1 2 3 4;edge 3 5", 17, 10, 8, 10, 17, 17);

        Sentences.say("If these paths have the lengths a(1), a(2), .. a(k), it is 2^a(1) + .. + 2^a(k) - k + 1"
                + " (1 for a graph with one vertex).");
        tree("vertices 1", 1);
        tree("vertices 5;edge 0 1 2;edge 3 1 4", 6, 5, 6, 6, 6);
        Checks.due("4 + 4 + 2 - 3 + 1", Checks.made("vertices 6;edge 2 1 0 3 4;edge 0 5").treeNumber(0), 4 + 4 + 2 - 3 + 1);
    }

    // ---- Promises 26 to 30

    private static void set(String text, int set) {
        PebbleProofs x = Checks.made(text);
        Checks.due("reachable() in " + text, x.reachable(), set);
        for (int v = 0; v < x.count(0); v++) {
            Checks.due("isReachable(" + v + ") in " + text, x.isReachable(v), (set >> v & 1) == 1);
        }
    }

    private static void isReachable() {
        Sentences.say("Tells whether a target can be reached with the pebbles as they are.", "Returns true if so.");
        PebbleProofs x = Checks.made(Checks.path(4) + ";pile 0 7");
        Checks.due("isReachable(3) with 7", x.isReachable(3), false);
        x.put(0, 1);
        Checks.due("isReachable(3) with 8", x.isReachable(3), true);
        x.move(0, 1);
        Checks.due("isReachable(3) behind a move towards it", x.isReachable(3), true);
        x.move(0, 1);
        x.move(1, 0);
        Checks.due("isReachable(3) behind a move away from it", x.isReachable(3), false);
        x.addEdge(0, 2);
        Checks.due("isReachable(3) behind an edge", x.isReachable(3), true);
        x.undo();
        Checks.due("isReachable(3) behind undo()", x.isReachable(3), false);

        Sentences.say("- `target`: number of a vertex",
                "Throws `IndexOutOfBoundsException` if there is no such vertex");
        Checks.vertices("isReachable", (one, vertex) -> one.isReachable(vertex));
    }

    private static void reachable() {
        Sentences.say("Returns the vertices that can be reached.", "Returns a set of vertices.");
        set("vertices 1", 0);
        set("vertices 1;pile 0 1", 1);
        set(Checks.path(6), 0);
        for (int pebbles = 1, reach = 0; pebbles <= 32; pebbles++) {
            reach += pebbles == 1 << reach ? 1 : 0;
            set(Checks.path(6) + ";pile 0 " + pebbles, (1 << reach) - 1);
        }
        set(Checks.path(6) + ";pile 2 2;pile 3 1", 2 + 4 + 8 + 16);
        set(Checks.path(6) + ";pile 0 1;pile 2 3;pile 5 1", 63 - 16);
        set("vertices 6;edge 0 1 2 3 4 5 0;pile 0 7", 63 - 8);
        set("vertices 6;edge 0 1 2 3 4 5 0;pile 0 8", 63);
        set("vertices 5;edge 0 1 2 3 4 0;pile 1 3;pile 4 1", 1 + 2 + 4 + 16);
        set(COMPLETE + ";pile 3 1;pile 4 1", 8 + 16);
        set(COMPLETE + ";pile 3 2", 63);
    }

    private static void steps(String text, int target, int step) {
        Checks.due("next(" + target + ") in " + text, Checks.made(text).next(target), step);
    }

    private static void next() {
        Sentences.say("Returns the first move towards a target: of all moves that can be made");
        steps("vertices 3;edge 0 1 2;pile 0 2;pile 1 999", 2, 10);
        steps("vertices 3;edge 0 1 2;pile 0 2;pile 1 998", 2, 1);
        steps("vertices 4;edge 0 1 2;edge 0 2 3;pile 0 4;pile 1 999;pile 2 1", 3, 2);
        steps("vertices 3;edge 0 1 2;pile 0 1;pile 1 2", 2, 12);

        Sentences.say("and after which the target can still be reached,");
        steps("vertices 4;edge 0 1 3;edge 1 2;pile 1 2", 3, 13);
        steps("vertices 4;edge 0 1 3;edge 1 2;pile 1 2", 2, 12);
        steps("vertices 4;edge 0 1 3;edge 1 2;pile 1 4", 3, 10);
        steps("vertices 3;edge 0 1 2;pile 0 2;pile 1 2", 2, 1);
        steps("vertices 3;edge 1 0 2;pile 0 2", 2, 2);

        Sentences.say("the one from the lowest vertex, of several the one to the lowest one.",
                "Returns 10 * the vertex from which it goes + the vertex to which it goes.");
        steps("vertices 4;edge 0 2 3;edge 0 1 3;pile 0 4", 3, 1);
        steps("vertices 4;edge 0 2 3;edge 0 1 3;pile 0 2;pile 2 1", 3, 2);
        steps("vertices 4;edge 0 2 3;edge 0 1 3;pile 1 2;pile 2 2", 3, 10);
        steps("vertices 4;edge 0 2 3;edge 0 1 3;pile 2 2;pile 1 1", 3, 23);
        steps("vertices 6;edge 5 4 3 2 1 0;pile 5 32", 0, 54);
        steps("vertices 2;edge 0 1;pile 0 2", 1, 1);
        steps("vertices 2;edge 0 1;pile 1 2", 0, 10);
        steps(COMPLETE + ";pile 5 2", 4, 54);
        steps(COMPLETE + ";pile 4 2", 5, 45);
        steps(COMPLETE + ";pile 5 3;pile 1 1", 0, 50);
        steps(COMPLETE + ";pile 5 3;pile 1 1", 2, 51);

        Sentences.say("- `target`: number of a vertex",
                "Throws `IndexOutOfBoundsException` if there is no such vertex (checked first)");
        Checks.vertices("next", (one, vertex) -> one.next(vertex));
    }

    private static void nextRefused() {
        Sentences.say("Throws `NoSuchElementException` if the target has a pebble, or cannot be reached");
        PebbleProofs x = Checks.made("vertices 3;edge 0 1 2;pile 0 3;pile 1 1");
        Checks.noElement("next(0), it has three", () -> x.next(0));
        Checks.noElement("next(1), it has one", () -> x.next(1));
        Checks.due("next(2), it has none", x.next(2), 1);
        x.take(0, 2);
        Checks.noElement("next(2), it cannot be reached", () -> x.next(2));
        x.put(1, 1);
        Checks.due("next(2)", x.next(2), 12);
        Checks.noElement("next(0) of one vertex", () -> Checks.made("vertices 1").next(0));
        Checks.noElement("next(0) of one vertex", () -> Checks.made("vertices 1;pile 0 1").next(0));
        Checks.noElement("next(5)", () -> Checks.made(Checks.path(6) + ";pile 0 31").next(5));
        Checks.due("next(5)", Checks.made(Checks.path(6) + ";pile 0 32").next(5), 1);
        Checks.noElement("next(0)", () -> Checks.made(Checks.path(6)).next(0));
        Checks.due("no refusal", x.reason(), 0);
    }

    private static void fewest() {
        Sentences.say("Returns the least number of moves by which a target can be reached.",
                "Returns the number; 0 if it has a pebble.");
        PebbleProofs x = Checks.made("vertices 4;edge 0 1 2 3;pile 0 8;pile 2 1");
        int[] due = {0, 1, 0, 4};
        for (int v = 0; v < 4; v++) {
            int vertex = v;
            Checks.call("fewest(" + v + ")", () -> x.fewest(vertex), due[v]);
        }
        x.put(2, 1);
        Checks.call("fewest(3)", () -> x.fewest(3), 1);
        Checks.call("fewest(0)", () -> Checks.made("vertices 1;pile 0 1").fewest(0), 0);
        Checks.call("fewest(1)", () -> Checks.made("vertices 2;edge 0 1;pile 0 2").fewest(1), 1);
        // Fewer than by the moves of next().
        PebbleProofs y = Checks.made("vertices 3;edge 0 1 2;pile 0 3;pile 1 3");
        Checks.call("fewest(2)", () -> y.fewest(2), 1);
        Checks.call("reach(2)", () -> y.reach(2), 4);
        // By the one of two ways.
        Checks.call("fewest(3)", () -> Checks.made("vertices 5;edge 0 1 2 3;edge 0 4 3;pile 0 9").fewest(3), 3);

        Sentences.say("- `target`: number of a vertex",
                "Throws `IndexOutOfBoundsException` if there is no such vertex (checked first)");
        Checks.vertices("fewest", (one, vertex) -> one.fewest(vertex));
        Checks.vertices("fewest of 15 pebbles", (one, vertex) -> {
            one.put(0, 12);
            return one.fewest(vertex);
        });
    }

    private static void fewestRefused() {
        Sentences.say("Throws `UnsupportedOperationException` if there are more than 14 pebbles (checked second)");
        String[] fourteen = {";pile 0 14", ";pile 3 14", ";pile 0 7;pile 1 7", ";pile 0 13;pile 3 1", ";pile 0 4;pile 1 4;pile 2 3;pile 3 3"};
        for (String piles : fourteen) {
            PebbleProofs x = Checks.made(Checks.path(4) + piles);
            Checks.due("fewest(2) with 14", Checks.answer(() -> x.fewest(2)) instanceof Integer, true);
            for (int v = 0; v < 4; v++) {
                x.put(v, 1);
                Checks.unsupported("fewest(2) with 15", () -> x.fewest(2));
                Checks.unsupported("fewest(0) with 15", () -> x.fewest(0));
                x.undo();
            }
            x.put(3, 99);
            Checks.unsupported("fewest(3), which has pebbles", () -> x.fewest(3));
        }
        // It is checked before whether the target can be reached.
        PebbleProofs far = Checks.made(Checks.path(6) + ";pile 0 15");
        Checks.unsupported("fewest(5), which cannot be reached, with 15", () -> far.fewest(5));
        far.take(0, 1);
        Checks.noElement("fewest(5), which cannot be reached, with 14", () -> far.fewest(5));

        Sentences.say("Throws `NoSuchElementException` if it cannot be reached");
        Checks.noElement("fewest(0) of one vertex", () -> Checks.made("vertices 1").fewest(0));
        Checks.noElement("fewest(1)", () -> Checks.made("vertices 2;edge 0 1;pile 0 1").fewest(1));
        Checks.noElement("fewest(3)", () -> Checks.made(Checks.path(4) + ";pile 0 7").fewest(3));
        Checks.call("fewest(3)", () -> Checks.made(Checks.path(4) + ";pile 0 8").fewest(3), 7);
        Checks.due("no refusal", far.reason(), 0);
    }

    private static void comes(String text, int piles) {
        Checks.due("ahead() in " + text, Checks.made(text).ahead(), piles);
    }

    private static void ahead() {
        Sentences.say("Returns how many different piles (with the present one) can come of the present one by moves.");
        comes("vertices 1", 1);
        comes("vertices 1;pile 0 14", 1);
        comes("vertices 2;edge 0 1;pile 0 1;pile 1 1", 1);
        comes("vertices 2;edge 0 1;pile 0 2", 2);
        comes("vertices 2;edge 0 1;pile 0 3;pile 1 1", 4);
        // 4 0, 2 1, 0 2, 1 0: the last one by two ways.
        comes("vertices 2;edge 0 1;pile 0 4", 4);
        comes("vertices 3;edge 0 1 2;pile 0 4", 5);
        comes("vertices 3;edge 1 0 2;pile 0 2", 3);
        comes("vertices 3;edge 1 0 2;pile 0 3", 3);
        comes(Checks.path(6) + ";pile 0 1;pile 1 1;pile 2 1;pile 3 1;pile 4 1;pile 5 1", 1);
        mostPiles();

        Sentences.say("Returns their number; NONE if there are more than 14 pebbles.");
        comes("vertices 1;pile 0 15", -1);
        comes("vertices 1;pile 0 999", -1);
        comes("vertices 2;edge 0 1;pile 0 14", 24);
        comes("vertices 2;edge 0 1;pile 0 15", -1);
        comes("vertices 2;edge 0 1;pile 0 14;pile 1 1", -1);
        comes("vertices 2;edge 0 1;pile 0 7;pile 1 8", -1);
        comes(COMPLETE + ";pile 0 14", 2175);
        comes(COMPLETE + ";pile 0 2;pile 1 2;pile 2 2;pile 3 3;pile 4 3;pile 5 3", -1);
        PebbleProofs x = Checks.made("vertices 2;edge 0 1;pile 0 14");
        x.put(1, 1);
        Checks.due("ahead() with 15", x.ahead(), -1);
        x.move(0, 1);
        Checks.due("ahead() with 14", x.ahead(), Checks.made(Checks.text(x)).ahead());
        // Asked again when there are more or fewer piles, and with other edges.
        PebbleProofs y = Checks.made("vertices 3;edge 0 1 2;pile 0 4");
        Checks.due("ahead()", y.ahead(), 5);
        y.addEdge(0, 2);
        Checks.due("ahead() behind an edge", y.ahead(), 9);
        Checks.call("fewest(2) behind an edge", () -> y.fewest(2), 1);
        y.undo();
        Checks.due("ahead() behind undo()", y.ahead(), 5);
        Checks.call("fewest(2) behind undo()", () -> y.fewest(2), 3);
        y.put(0, 10);
        Checks.due("ahead() of more", y.ahead(), Checks.made("vertices 3;edge 0 1 2;pile 0 14").ahead());
        y.take(0, 12);
        Checks.due("ahead() of less", y.ahead(), 2);
        Checks.call("lacking() of less", () -> y.lacking(), 2);
        y.take(0, 1);
        Checks.due("ahead() of one pebble", y.ahead(), 1);
        Checks.noElement("fewest(1) of one pebble", () -> y.fewest(1));
    }

    private static int most(int[] pile, int vertex, int left, int highest) {
        if (vertex == pile.length) {
            return Checks.made(text(COMPLETE, pile)).ahead();
        }
        int most = 0;
        for (int k = 0; k <= Math.min(left, highest); k++) {
            pile[vertex] = k;
            most = Math.max(most, most(pile, vertex + 1, left - k, k));
        }
        return most;
    }

    // With all edges there are the most moves, and there no vertex differs from another.
    private static void mostPiles() {
        comes(COMPLETE + ";pile 0 4;pile 1 2;pile 2 2;pile 3 2;pile 4 2;pile 5 2", 8102);
        Checks.due("the most that come of a pile", most(new int[6], 0, 14, 14), 8102);
    }

    // ---- Promises 31 to 36

    private static void number() {
        Sentences.say("Returns the pebbling number of a target.", "Returns the number.");
        String[] graphs = {"vertices 1", "vertices 2;edge 0 1", Checks.path(6), COMPLETE, STAR,
            "vertices 5;edge 0 1 2 3 4 0", "vertices 6;edge 0 1 2 3 4 5 0", "vertices 4;edge 0 1 2 0 3"};
        int[][] due = {{1}, {2, 2}, {32, 17, 11, 11, 17, 32}, {6, 6, 6, 6, 6, 6}, {6, 7, 7, 7, 7, 7},
            {5, 5, 5, 5, 5}, {8, 8, 8, 8, 8, 8}, {4, 5, 5, 5}};
        for (int i = 0; i < graphs.length; i++) {
            for (int v = 0; v < due[i].length; v++) {
                Checks.due("number(" + v + ") in " + graphs[i], Checks.made(graphs[i]).number(v), due[i][v]);
                Checks.due("number(" + v + ") with pebbles", Checks.made(graphs[i] + ";pile 0 999").number(v), due[i][v]);
            }
        }
        PebbleProofs x = Checks.made(Checks.path(6));
        x.addEdge(0, 5);
        Checks.due("number(5) behind an edge", x.number(5), 8);

        Sentences.say("- `target`: number of a vertex",
                "Throws `IndexOutOfBoundsException` if there is no such vertex");
        Checks.vertices("number", (one, vertex) -> one.number(vertex));
    }

    private static void graphNumber() {
        Sentences.say("Returns the greatest pebbling number of all targets.", "Returns the number.");
        for (int n = 1; n <= 6; n++) {
            Checks.due("graphNumber()", Checks.made(Checks.path(n)).graphNumber(), 1 << n - 1);
        }
        Checks.due("graphNumber()", Checks.made(COMPLETE).graphNumber(), 6);
        Checks.due("graphNumber()", Checks.made(STAR).graphNumber(), 7);
        // That of neither the first nor the last vertex.
        Checks.due("graphNumber()", Checks.made("vertices 4;edge 1 0 3 2").graphNumber(), 8);
        Checks.due("graphNumber()", Checks.made("vertices 6;edge 2 1 0 3 4;edge 0 5").graphNumber(), 17);
    }

    private static void worst() {
        Sentences.say("Returns how many pebbles a vertex has in the first worst pile of a target.", "Returns the pebbles.");
        firstWorst("vertices 1", 0, 0);
        firstWorst("vertices 1;pile 0 9", 0, 0);
        firstWorst("vertices 2;edge 0 1", 0, 0, 1);
        firstWorst("vertices 2;edge 0 1", 1, 1, 0);
        firstWorst(Checks.path(6) + ";pile 2 7", 5, 31, 0, 0, 0, 0, 0);
        firstWorst("vertices 6;edge 2 1 0 3 4;edge 0 5", 5, 0, 0, 3, 0, 7, 0);

        Sentences.say("- `target`: number of a vertex", "- `vertex`: number of a vertex",
                "Throws `IndexOutOfBoundsException` if one of the vertices does not exist");
        Checks.vertices("worst", (one, vertex) -> one.worst(vertex, 0));
        Checks.vertices("worst", (one, vertex) -> one.worst(0, vertex));
        Checks.vertices("worst", (one, vertex) -> one.worst(vertex, vertex));
    }

    private static void worstPiles() {
        Sentences.say("Returns how many worst piles a target has.", "Returns their number.");
        String[] graphs = {"vertices 1", "vertices 2;edge 0 1", Checks.path(6), STAR, COMPLETE,
            "vertices 4;edge 0 1 2 3 0", "vertices 5;edge 0 1 2 3 4 0", "vertices 6;edge 0 1 2 3 4 5 0"};
        int[] due = {1, 1, 1, 4, 1, 2, 6, 2};
        for (int i = 0; i < graphs.length; i++) {
            PebbleProofs x = Checks.made(graphs[i] + ";pile 0 9");
            int last = x.count(0) - 1;
            Checks.due("worstPiles(" + last + ") in " + graphs[i], x.worstPiles(last), due[i]);
            Checks.due("failing(" + last + ")", x.failing(last, x.number(last) - 1), due[i]);
        }
        Checks.due("worstPiles(0) in a star", Checks.made(STAR).worstPiles(0), 1);

        Sentences.say("- `target`: number of a vertex",
                "Throws `IndexOutOfBoundsException` if there is no such vertex");
        Checks.vertices("worstPiles", (one, vertex) -> one.worstPiles(vertex));
    }

    private static void failing() {
        Sentences.say("Returns how many piles with so many pebbles do not reach a target.", "Returns their number.");
        int[] choices = {1, 5, 10, 10, 5, 1, 0, 0};
        for (int k = 0; k < choices.length; k++) {
            Checks.due("failing(5, " + k + ") of all edges", Checks.made(COMPLETE).failing(5, k), choices[k]);
        }
        PebbleProofs one = Checks.made("vertices 1;pile 0 5");
        Checks.due("failing(0, 0) of one vertex", one.failing(0, 0), 1);
        Checks.due("failing(0, 1) of one vertex", one.failing(0, 1), 0);
        Checks.due("failing(5, 31)", Checks.made(Checks.path(6)).failing(5, 31), 1);
        Checks.due("failing(5, 32)", Checks.made(Checks.path(6)).failing(5, 32), 0);
        Checks.due("the failing piles of the last of a path", allFailing(Checks.path(6), 5), 1626);
        mostFailing();
        // Asked again with other edges.
        PebbleProofs y = Checks.made("vertices 3;edge 0 1 2");
        int[][] due = {{1, 2, 2, 1, 0}, {1, 2, 1, 0, 0}, {1, 2, 2, 1, 0}};
        for (int[] many : due) {
            for (int k = 0; k < many.length; k++) {
                Checks.due("failing(2, " + k + ")", y.failing(2, k), many[k]);
            }
            Checks.due("number(2)", y.number(2), many[3] == 0 ? 3 : 4);
            Checks.answer(() -> y.isEdge(0, 2) ? y.removeEdge(2, 0) : y.addEdge(0, 2));
        }

        PebbleProofs ring = Checks.made(Checks.path(6));
        Checks.due("failing(5, 7) of a path", ring.failing(5, 7) > ring.failing(5, 31), true);
        ring.addEdge(0, 5);
        PebbleProofs same = Checks.made("vertices 6;edge 0 1 2 3 4 5 0");
        for (int k = 0; k < 40; k++) {
            Checks.due("failing(5, " + k + ") of a ring", ring.failing(5, k), same.failing(5, k));
        }
        ring.put(2, 8);
        Checks.due("isReachable(5) in a ring", ring.isReachable(5), true);

        Sentences.say("- `target`: number of a vertex",
                "Throws `IndexOutOfBoundsException` if there is no such vertex (checked first)");
        for (int pebbles : new int[] {0, -1, 99, 100}) {
            Checks.vertices("failing of " + pebbles, (x, vertex) -> x.failing(vertex, pebbles));
        }

        Sentences.say("- `pebbles`: 0 to 99", "Throws `IllegalArgumentException` if pebbles is out of range");
        PebbleProofs x = Checks.made(Checks.path(3));
        Checks.call("failing(2, 0)", () -> x.failing(2, 0), 1);
        for (int pebbles = 4; pebbles <= 99; pebbles++) {
            int many = pebbles;
            Checks.call("failing(2, " + pebbles + ")", () -> x.failing(2, many), 0);
        }
        for (int pebbles : new int[] {-1, -99, 100, 101, 999, Integer.MIN_VALUE, Integer.MAX_VALUE}) {
            Checks.argument("failing(2, " + pebbles + ")", () -> x.failing(2, pebbles));
        }
    }

    private static int allFailing(String graph, int target) {
        PebbleProofs x = Checks.made(graph);
        int all = 0;
        for (int k = 0; k < 100; k++) {
            all += x.failing(target, k);
        }
        return all;
    }

    // With more edges fewer piles fail, so that trees are enough; each has a vertex order in which
    // each vertex but the first has one neighbour among those before it.
    private static void mostFailing() {
        int most = 0;
        for (int code = 0; code < 120; code++) {
            StringBuilder tree = new StringBuilder("vertices 6");
            for (int v = 1, left = code; v < 6; left /= v, v++) {
                tree.append(";edge ").append(v).append(' ').append(left % v);
            }
            for (int target = 0; target < 6; target++) {
                most = Math.max(most, allFailing(tree.toString(), target));
            }
        }
        Checks.due("the most piles that fail", most, 1626);
    }

    private static void treeNumber() {
        Sentences.say("Returns the pebbling number of a target by paths (section 3).", "Returns the number.");
        tree("vertices 1", 1);
        tree("vertices 2;edge 0 1", 2, 2);
        tree("vertices 6;edge 0 1 2 3 4;edge 2 5", 17, 10, 8, 10, 17, 11);
        Checks.due("with pebbles", Checks.made("vertices 2;edge 0 1;pile 0 999").treeNumber(0), 2);

        Sentences.say("- `target`: number of a vertex",
                "Throws `IndexOutOfBoundsException` if there is no such vertex (checked first)");
        Checks.vertices("treeNumber", (one, vertex) -> one.treeNumber(vertex));
        PebbleProofs ring = Checks.made("vertices 3;edge 0 1 2 0");
        Checks.bounds("treeNumber(3) of a ring", () -> ring.treeNumber(3));
        Checks.bounds("treeNumber(-1) of a ring", () -> ring.treeNumber(-1));

        Sentences.say("Throws `UnsupportedOperationException` if the graph is not a tree");
        for (String graph : new String[] {"vertices 3;edge 0 1 2 0", "vertices 4;edge 0 1 2 3 0",
            "vertices 4;edge 0 1 2 0 3", "vertices 6;edge 0 1 2 3 4 5 0", COMPLETE, "vertices 6;edge 0 1 2 3 4 5 3"}) {
            PebbleProofs x = Checks.made(graph);
            for (int v = 0; v < x.count(0); v++) {
                int vertex = v;
                Checks.unsupported("treeNumber(" + v + ") in " + graph, () -> x.treeNumber(vertex));
            }
        }
        ring.removeEdge(0, 1);
        Checks.call("treeNumber(0) of what is a tree now", () -> ring.treeNumber(0), 4);
        ring.undo();
        Checks.unsupported("treeNumber(0) of a ring again", () -> ring.treeNumber(0));
        Checks.due("no refusal", ring.reason(), 0);
    }
}
