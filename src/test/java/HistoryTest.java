/** Promises 15 to 19: undo, the saved copy, and the reason of the last refusal. */
public final class HistoryTest {
    private HistoryTest() {
    }

    private static void change(PebbleProofs x, int which) {
        switch (which) {
            case 0 -> x.addEdge(0, 2);
            case 1 -> x.removeEdge(0, 1);
            case 2 -> x.put(1, 9);
            case 3 -> x.take(1, 1);
            case 4 -> x.move(1, 2);
            case 5 -> x.reach(0);
            case 6 -> x.addStrategy(0);
            case 7 -> x.weigh(0, 2, 0, 7);
            case 8 -> x.addStrategy(1);
            case 9 -> x.dropStrategy(0);
            default -> x.reach(1);
        }
    }

    /** A new object for each question, as one is used for at most 512 calls. */
    private static PebbleProofs changed(int changes) {
        PebbleProofs x = Checks.made("vertices 4;edge 0 1 2 3;pile 3 2");
        for (int which = 0; which < changes; which++) {
            change(x, which);
            Checks.due("undoCount()", x.undoCount(), Math.min(10, which + 1));
        }
        return x;
    }

    /** Promises 15 and 16: each kind of change, forth and back. */
    private static void eachKind() {
        for (int undone = 1; undone <= 10; undone++) {
            PebbleProofs x = changed(11);
            for (int left = 9; left >= 10 - undone; left--) {
                Checks.due("undo()", x.undo(), left);
                Checks.due("undoCount()", x.undoCount(), left);
            }
            Checks.due("after undo() of " + undone, Checks.view(x), Checks.view(changed(11 - undone)));
        }
        PebbleProofs y = changed(11);
        for (int i = 0; i < 10; i++) {
            y.undo();
        }
        Checks.state("an eleventh undo()", () -> y.undo());
        Checks.due("nothing changed", Checks.view(y), Checks.view(changed(1)));
        Checks.due("reason() stays", y.reason(), 0);
    }

    /** Promise 15: changes after an undo, and more than ten of them. */
    private static void forthAndBack() {
        PebbleProofs x = new PebbleProofs();
        for (int i = 1; i <= 25; i++) {
            x.put(0, 1);
        }
        Checks.due("pebbles(0)", x.pebbles(0), 29);
        Checks.due("undo()", x.undo(), 9);
        Checks.due("undo()", x.undo(), 8);
        Checks.due("put(1, 5)", x.put(1, 5), 5);
        Checks.due("undoCount()", x.undoCount(), 9);
        Checks.due("undo()", x.undo(), 8);
        Checks.due("pebbles(1)", x.pebbles(1), 0);
        Checks.due("pebbles(0)", x.pebbles(0), 27);
        for (int left = 7; left >= 0; left--) {
            Checks.due("undo()", x.undo(), left);
        }
        Checks.due("pebbles(0)", x.pebbles(0), 19);
        Checks.state("undo()", () -> x.undo());
        Checks.state("take(1, 1)", () -> x.take(1, 1));
        Checks.state("undo()", () -> x.undo());
        Checks.due("reason() stays", x.reason(), 5);
        x.put(2, 1);
        Checks.due("undo()", x.undo(), 0);
        Checks.due("reason() stays", x.reason(), 5);
    }

    /** Promise 16: what is no change. */
    private static void noChange() {
        PebbleProofs x = new PebbleProofs();
        x.append(1, 2, 3, 4, 5);
        x.truncate(0);
        x.save();
        x.reachable();
        x.next(2);
        Checks.state("addEdge(0, 1)", () -> x.addEdge(0, 1));
        Checks.argument("put(0, 0)", () -> x.put(0, 0));
        Checks.argument("load()", () -> x.load());
        Checks.due("undoCount()", x.undoCount(), 0);
        x.addStrategy(0);
        x.weigh(0, 1, 0, 0);
        Checks.due("a change without effect", x.undoCount(), 2);
    }

    /** Promises 17 and 18. */
    private static void saveAndRestore() {
        PebbleProofs x = Checks.made("vertices 4;edge 0 1 2 3;pile 3 9;strategy 0 1 0 4");
        Checks.state("restore()", () -> x.restore());
        Checks.due("reason() stays", x.reason(), 0);
        x.move(3, 2);
        String saved = Checks.view(x);
        Checks.due("save()", x.save(), 4);
        Checks.due("undoCount()", x.undoCount(), 1);
        for (int which : new int[] {0, 2, 3, 4, 7, 8}) {
            change(x, which);
        }
        Checks.state("move(0, 0)", () -> x.move(0, 0));
        x.append(0x61, 0, 0, 0, 0);
        Checks.due("restore()", x.restore(), 4);
        Checks.due("after restore()", Checks.view(x), saved);
        Checks.due("undoCount()", x.undoCount(), 0);
        Checks.state("undo()", () -> x.undo());
        Checks.due("reason() stays", x.reason(), 4);
        Checks.due("the buffer stays", x.append(0, 0, 0, 0, 0), 1);
        Checks.due("count(3)", x.count(3), 1);
    }

    /** Promises 17 and 18: a copy that is kept, and one in place of another. */
    private static void copies() {
        PebbleProofs x = new PebbleProofs();
        x.addEdge(0, 2);
        x.save();
        String first = Checks.view(x);
        x.put(0, 7);
        x.undo();
        x.undo();
        Checks.due("distance(0, 2)", x.distance(0, 2), 2);
        Checks.due("restore()", x.restore(), 3);
        Checks.due("after restore()", Checks.view(x), first);
        x.removeEdge(0, 1);
        x.addStrategy(1);
        x.restore();
        Checks.due("after restore() again", Checks.view(x), first);
        x.put(2, 3);
        String second = Checks.view(x);
        x.save();
        Checks.due("undoCount()", x.undoCount(), 1);
        x.undo();
        Checks.due("after undo()", Checks.view(x), first);
        x.restore();
        Checks.due("the later copy", Checks.view(x), second);
        Checks.type(x, "vertices 2;edge 0 1");
        x.load();
        Checks.state("restore() after load()", () -> x.restore());
        Checks.due("save()", x.save(), 2);
        x.put(0, 1);
        Checks.due("restore()", x.restore(), 2);
        Checks.due("pebbles(0)", x.pebbles(0), 0);
    }

    /** Promise 18: what is asked after undo() and restore() is of the graph that is there then. */
    private static void answersFollow() {
        PebbleProofs x = new PebbleProofs();
        x.save();
        Checks.due("number(2)", x.number(2), 4);
        Checks.due("ahead()", x.ahead(), 5);
        x.addEdge(0, 2);
        Checks.due("number(2)", x.number(2), 3);
        Checks.due("ahead()", x.ahead(), 9);
        x.undo();
        Checks.due("number(2)", x.number(2), 4);
        Checks.due("ahead()", x.ahead(), 5);
        x.addEdge(0, 2);
        Checks.due("graphNumber()", x.graphNumber(), 3);
        Checks.due("fewest(2)", x.fewest(2), 1);
        x.restore();
        Checks.due("graphNumber()", x.graphNumber(), 4);
        Checks.due("fewest(2)", x.fewest(2), 3);
        Checks.type(x, "vertices 2;edge 0 1;pile 0 4");
        x.load();
        Checks.due("number(0)", x.number(0), 2);
        Checks.due("ahead()", x.ahead(), 4);
        Checks.due("lacking()", x.lacking(), 0);
    }

    /** Promise 19. */
    private static void reason() {
        PebbleProofs x = new PebbleProofs();
        Checks.due("reason()", x.reason(), 0);
        Checks.state("take(2, 1)", () -> x.take(2, 1));
        Checks.due("reason()", x.reason(), 5);
        Checks.state("addEdge(0, 1)", () -> x.addEdge(0, 1));
        Checks.due("reason()", x.reason(), 1);
        x.put(0, 1);
        Checks.due("reason() after a change", x.reason(), 1);
        Checks.bounds("move(0, 5)", () -> x.move(0, 5));
        Checks.argument("put(0, 100)", () -> x.put(0, 100));
        Checks.argument("load()", () -> x.load());
        Checks.due("reason() after other exceptions", x.reason(), 1);
        x.save();
        x.restore();
        Checks.due("reason() after restore()", x.reason(), 1);
        Checks.type(x, "vertices 1");
        x.load();
        Checks.due("reason() after load()", x.reason(), 0);
    }

    public static void main(String[] args) {
        eachKind();
        forthAndBack();
        noChange();
        saveAndRestore();
        copies();
        answersFollow();
        reason();
        Checks.end();
    }
}
