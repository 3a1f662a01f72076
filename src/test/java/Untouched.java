import java.util.ArrayList;
import java.util.List;
import java.util.function.Function;
import java.util.function.Supplier;

/**
 * Calls that leave an object as it was: of two objects that are made alike one gets the call, and
 * then both are asked the same, with all that undo(), restore() and load() bring to light.
 */
final class Untouched {
    private static final List<Function<PebbleProofs, String>> QUESTIONS = questions();

    private Untouched() {
    }

    // ---- The objects

    /** Six strategies, a full vertex, ten changes, a saved copy, a text, and 5 as the reason. */
    private static PebbleProofs rich() {
        PebbleProofs x = Checks.made("vertices 5;edge 0 1 2 3 1;edge 3 4;pile 0 5;pile 1 990;pile 2 40"
                + ";strategy 0 1 0 4;strategy 4 3 4 8 2 3 4");
        x.put(1, 5);
        x.move(2, 1);
        x.save();
        for (int target = 1; target < 5; target++) {
            x.addStrategy(target);
        }
        x.weigh(2, 0, 1, 7);
        x.put(1, 3);
        x.take(0, 4);
        x.addEdge(0, 2);
        Checks.refused("move(0, 1)", x, () -> x.move(0, 1), 5);
        Checks.type(x, "vertices 2;edge 0 1;pile 1 7");
        return x;
    }

    /** Few pebbles on a path, whose end cannot be reached; the text is not valid. */
    private static PebbleProofs poor() {
        PebbleProofs x = Checks.made("vertices 5;edge 0 1 2 3 4;pile 0 4;strategy 1");
        x.put(0, 3);
        x.move(0, 1);
        x.save();
        x.take(0, 1);
        x.addEdge(0, 2);
        x.removeEdge(2, 1);
        Checks.refused("addEdge(0, 1)", x, () -> x.addEdge(0, 1), 1);
        Checks.type(x, "vertices 2;edge 0 1;");
        return x;
    }

    /** As it is made: nothing to undo, no copy. */
    private static PebbleProofs fresh() {
        PebbleProofs x = new PebbleProofs();
        Checks.type(x, "vertices 1" + " ".repeat(385));
        return x;
    }

    // ---- What is asked of them

    private static List<Function<PebbleProofs, String>> questions() {
        List<Function<PebbleProofs, String>> all = new ArrayList<>();
        all.add(Checks::view);
        all.add(Untouched::targets);
        all.add(x -> Checks.length(x) + " " + x.errorPosition() + " " + Checks.answer(x::load) + " " + Checks.view(x));
        all.add(x -> Checks.answer(x::restore) + " " + x.undoCount() + " " + Checks.view(x));
        for (int many = 0; many <= 11; many++) {
            int undone = many;
            all.add(x -> undo(x, undone));
        }
        return all;
    }

    private static String targets(PebbleProofs x) {
        StringBuilder all = new StringBuilder();
        all.append(x.reachable()).append(' ').append(x.ahead()).append(' ').append(x.graphNumber());
        for (int v = 0; v < x.count(0); v++) {
            int vertex = v;
            all.append("; ").append(Checks.answer(() -> x.next(vertex))).append(' ').append(x.moves(v));
            all.append(' ').append(Checks.answer(() -> x.fewest(vertex))).append(' ').append(x.number(v));
            all.append(' ').append(Checks.answer(() -> x.bound(vertex))).append(' ').append(x.stack(v));
        }
        return all.toString();
    }

    private static String undo(PebbleProofs x, int many) {
        StringBuilder all = new StringBuilder();
        all.append(x.undoCount());
        for (int i = 0; i < many; i++) {
            all.append(' ').append(Checks.answer(x::undo));
        }
        return all.append(' ').append(x.undoCount()).append(' ').append(Checks.view(x)).toString();
    }

    // ---- The calls

    private interface Call {
        Object of(PebbleProofs x);
    }

    private static void untouched(String call, Supplier<PebbleProofs> make, Call what, Object answer, int reason) {
        for (Function<PebbleProofs, String> question : QUESTIONS) {
            PebbleProofs x = make.get();
            if (answer != null) {
                Checks.call(call, () -> what.of(x), answer);
            } else {
                Checks.answer(() -> what.of(x));
            }
            Checks.due("reason() behind " + call, x.reason(), reason);
            Checks.due("what is there behind " + call, question.apply(x), question.apply(make.get()));
        }
    }

    private static void refused(String call, Supplier<PebbleProofs> make, Call what, int reason) {
        untouched(call, make, what, "IllegalStateException", reason);
    }

    private static void bounds(String call, Call what) {
        untouched(call, Untouched::rich, what, "IndexOutOfBoundsException", 5);
    }

    private static void argument(String call, Call what) {
        untouched(call, Untouched::rich, what, "IllegalArgumentException", 5);
    }

    /** Section 6: what a refused change leaves as it was, and reason() behind it. */
    static void refusals() {
        refused("addEdge(1, 3)", Untouched::rich, x -> x.addEdge(1, 3), 1);
        refused("removeEdge(0, 4)", Untouched::rich, x -> x.removeEdge(0, 4), 2);
        refused("removeEdge(3, 4)", Untouched::rich, x -> x.removeEdge(3, 4), 3);
        refused("move(0, 4)", Untouched::rich, x -> x.move(0, 4), 4);
        refused("move(2, 2)", Untouched::rich, x -> x.move(2, 2), 4);
        refused("move(0, 2)", Untouched::rich, x -> x.move(0, 2), 5);
        refused("take(0, 2)", Untouched::rich, x -> x.take(0, 2), 5);
        refused("move(2, 1)", Untouched::rich, x -> x.move(2, 1), 6);
        refused("addStrategy(0)", Untouched::rich, x -> x.addStrategy(0), 7);
        refused("reach(4)", Untouched::poor, x -> x.reach(4), 6);
    }

    /** Section 8: what any other exception leaves as it was; reason() stays, too. */
    static void exceptions() {
        ofInputAndHistory();
        ofChanges();
        ofQuestions();
    }

    private static void ofInputAndHistory() {
        refused("append of six to 395", Untouched::fresh, x -> x.append(0x3B3B3B3B, 0x3B3B0000, 0, 0, 0), 0);
        refused("undo() of nothing", Untouched::fresh, PebbleProofs::undo, 0);
        refused("restore() of nothing", Untouched::fresh, PebbleProofs::restore, 0);
        argument("truncate(-1)", x -> x.truncate(-1));
        argument("truncate(29)", x -> x.truncate(29));
        untouched("load()", Untouched::poor, PebbleProofs::load, "IllegalArgumentException", 1);
    }

    private static void ofChanges() {
        for (int outside : new int[] {-1, 5}) {
            bounds("addEdge", x -> x.addEdge(outside, 0));
            bounds("addEdge", x -> x.addEdge(0, outside));
            bounds("removeEdge", x -> x.removeEdge(outside, 0));
            bounds("removeEdge", x -> x.removeEdge(0, outside));
            bounds("put", x -> x.put(outside, 1));
            bounds("take", x -> x.take(outside, 1));
            bounds("move", x -> x.move(outside, 0));
            bounds("move", x -> x.move(2, outside));
            bounds("reach", x -> x.reach(outside));
            bounds("addStrategy", x -> x.addStrategy(outside));
            bounds("weigh", x -> x.weigh(0, outside, 1, 1));
            bounds("weigh", x -> x.weigh(0, 1, outside, 1));
        }
        bounds("weigh", x -> x.weigh(6, 1, 0, 1));
        bounds("dropStrategy", x -> x.dropStrategy(-1));
        bounds("dropStrategy", x -> x.dropStrategy(6));
        argument("addEdge(2, 2)", x -> x.addEdge(2, 2));
        argument("removeEdge(2, 2)", x -> x.removeEdge(2, 2));
        argument("put(1, 1) to 999", x -> x.put(1, 1));
        argument("weigh of the target", x -> x.weigh(0, 0, 1, 1));
        for (int many : new int[] {0, 100}) {
            argument("put of " + many, x -> x.put(2, many));
            argument("take of " + many, x -> x.take(2, many));
            argument("weigh of " + (many - 1), x -> x.weigh(0, 1, 0, many - 1));
        }
    }

    private static void ofQuestions() {
        bounds("isEdge", x -> x.isEdge(0, 5));
        bounds("distance", x -> x.distance(5, 0));
        bounds("farthest", x -> x.farthest(5));
        bounds("pebbles", x -> x.pebbles(-1));
        bounds("moves", x -> x.moves(5));
        bounds("isReachable", x -> x.isReachable(5));
        bounds("next", x -> x.next(5));
        bounds("fewest", x -> x.fewest(5));
        bounds("number", x -> x.number(5));
        bounds("worst", x -> x.worst(0, 5));
        bounds("worstPiles", x -> x.worstPiles(5));
        bounds("failing", x -> x.failing(5, 1));
        bounds("treeNumber", x -> x.treeNumber(5));
        bounds("strategy", x -> x.strategy(6, 0, 0));
        bounds("wrong", x -> x.wrong(6));
        bounds("weight", x -> x.weight(6, true));
        bounds("proves", x -> x.proves(6));
        bounds("bound", x -> x.bound(5));
        bounds("stack", x -> x.stack(5));
        argument("count(6)", x -> x.count(6));
        argument("failing(0, 100)", x -> x.failing(0, 100));
        argument("strategy(0, 0, 3)", x -> x.strategy(0, 0, 3));
        String unsupported = "UnsupportedOperationException";
        untouched("fewest(4)", Untouched::rich, x -> x.fewest(4), unsupported, 5);
        untouched("treeNumber(0)", Untouched::rich, x -> x.treeNumber(0), unsupported, 5);
        untouched("canCover()", Untouched::rich, PebbleProofs::canCover, unsupported, 5);
        untouched("lacking()", Untouched::rich, PebbleProofs::lacking, unsupported, 5);
        String none = "NoSuchElementException";
        untouched("next(0)", Untouched::rich, x -> x.next(0), none, 5);
        untouched("bound(0)", Untouched::rich, x -> x.bound(0), none, 5);
        untouched("next(4)", Untouched::poor, x -> x.next(4), none, 1);
        untouched("fewest(4)", Untouched::poor, x -> x.fewest(4), none, 1);
    }

    /** Questions that are answered change nothing. */
    static void answers() {
        List<Call> all = List.of(
                x -> x.append(0, 0, 0, 0, 0), PebbleProofs::errorPosition, x -> x.truncate(Checks.length(x)),
                PebbleProofs::undoCount, PebbleProofs::reason, x -> x.count(3), x -> x.isEdge(0, 1),
                x -> x.distance(0, 4), x -> x.farthest(4), x -> x.pebbles(1), x -> x.moves(0),
                x -> x.isReachable(4), PebbleProofs::reachable, x -> x.next(2), x -> x.fewest(2),
                PebbleProofs::ahead, x -> x.number(4), PebbleProofs::graphNumber, x -> x.worst(4, 0),
                x -> x.worstPiles(4), x -> x.failing(4, 3), x -> x.treeNumber(4), x -> x.strategy(0, 0, 1),
                x -> x.wrong(0), x -> x.weight(0, true), x -> x.proves(0), x -> x.bound(1), x -> x.stack(0),
                PebbleProofs::coverNumber, PebbleProofs::canCover, PebbleProofs::lacking);
        for (int i = 0; i < all.size(); i++) {
            untouched("question " + i, Untouched::poor, all.get(i), null, 1);
            untouched("question " + i, Untouched::rich, all.get(i), null, 5);
        }
    }
}
