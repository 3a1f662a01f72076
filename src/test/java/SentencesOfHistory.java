import java.util.concurrent.Callable;

/** Section 8 and promises 15 to 19: each sentence and the boundaries that it names. */
final class SentencesOfHistory {
    private static final String START = "vertices 4;edge 0 1 2 3;pile 0 9;pile 1 2;strategy 0 1 0 8";

    private SentencesOfHistory() {
    }

    static void check() {
        Sentences.part("HISTORY");
        eachChange();
        noChanges();
        latestTen();
        exceptions();
        Sentences.part("Promise 15");
        undo();
        Sentences.part("Promise 16");
        undoCount();
        Sentences.part("Promise 17");
        save();
        Sentences.part("Promise 18");
        restore();
        restoreOfNothing();
        Sentences.part("Promise 19");
        reason();
        reasonStays();
    }

    private interface Change {
        Object of(PebbleProofs x);
    }

    private static final Change[] CHANGES = {
        x -> x.addEdge(0, 2), x -> x.put(2, 5), x -> x.take(0, 3), x -> x.move(0, 1), x -> x.reach(3),
        x -> x.addStrategy(1), x -> x.weigh(0, 2, 1, 4), x -> x.dropStrategy(0)};

    // ---- Section 8

    private static void eachChange() {
        Sentences.say("The successful calls of the methods of the section \"Changes\" are changes,");
        for (int i = 0; i < CHANGES.length; i++) {
            PebbleProofs x = Checks.made(START);
            CHANGES[i].of(x);
            Checks.due("undoCount() behind change " + i, x.undoCount(), 1);
            Checks.due("something changed by " + i, Checks.view(x).equals(Checks.view(Checks.made(START))), false);
            Checks.due("undo()", x.undo(), 0);
            Checks.due("undo() of change " + i, Checks.view(x), Checks.view(Checks.made(START)));
        }
        PebbleProofs ring = Checks.made("vertices 3;edge 0 1 2 0;pile 1 4");
        Checks.due("removeEdge(0, 1)", ring.removeEdge(0, 1), 2);
        Checks.due("undoCount()", ring.undoCount(), 1);
        Checks.due("undo()", ring.undo(), 0);
        Checks.due("undo() of removeEdge", Checks.view(ring), Checks.view(Checks.made("vertices 3;edge 0 1 2 0;pile 1 4")));
        Checks.due("distance(0, 1)", ring.distance(0, 1), 1);

        Sentences.say("also if they have no effect.");
        PebbleProofs y = Checks.made(START);
        Checks.due("reach(0) without moves", y.reach(0), 0);
        Checks.due("undoCount()", y.undoCount(), 1);
        Checks.due("weigh with what is there", y.weigh(0, 1, 0, 8), 8);
        Checks.due("undoCount()", y.undoCount(), 2);
        Checks.due("nothing changed", Checks.view(y), Checks.view(Checks.made(START)));
        for (int i = 0; i < 9; i++) {
            y.reach(1);
        }
        Checks.due("undoCount()", y.undoCount(), 10);
        Checks.due("undo()", y.undo(), 9);
        Checks.due("nothing changed", Checks.view(y), Checks.view(Checks.made(START)));
        // They take the place of earlier ones.
        PebbleProofs z = Checks.made(START);
        z.put(3, 1);
        for (int i = 0; i < 10; i++) {
            z.reach(0);
        }
        for (int left = 9; left >= 0; left--) {
            Checks.due("undo()", z.undo(), left);
        }
        Checks.state("undo()", () -> z.undo());
        Checks.due("pebbles(3)", z.pebbles(3), 1);
    }

    private static void noChanges() {
        PebbleProofs x = Checks.made(START);
        x.put(0, 1);
        x.append(0x61, 0, 0, 0, 0);
        x.errorPosition();
        x.truncate(0);
        x.save();
        x.next(3);
        x.isReachable(3);
        x.reachable();
        x.worst(3, 0);
        x.ahead();
        Checks.due("undoCount()", x.undoCount(), 1);
        Untouched.answers();
    }

    private static void latestTen() {
        Sentences.say("The latest 10 changes can be undone one by one.");
        for (int made = 0; made <= 23; made++) {
            PebbleProofs x = new PebbleProofs();
            for (int i = 1; i <= made; i++) {
                x.put(1, i);
            }
            int pebbles = made * (made + 1) / 2;
            int can = Math.min(10, made);
            Checks.due("undoCount() behind " + made + " changes", x.undoCount(), can);
            for (int i = 0; i < can; i++) {
                Checks.due("undo()", x.undo(), can - 1 - i);
                pebbles -= made - i;
                Checks.due("pebbles(1)", x.pebbles(1), pebbles);
            }
            Checks.state("undo() of one more", () -> x.undo());
            Checks.due("pebbles(1)", x.pebbles(1), pebbles);
            Checks.due("undoCount()", x.undoCount(), 0);
        }
    }

    private static void exceptions() {
        Sentences.say("A call that throws an exception changes nothing, but see section 6.");
        Untouched.exceptions();
        Untouched.refusals();
    }

    // ---- Promises

    private static void undo() {
        Sentences.say("Undoes the latest change that was not undone yet.");
        PebbleProofs x = new PebbleProofs();
        x.put(0, 1);
        x.put(1, 2);
        x.put(2, 3);
        Checks.due("undo()", x.undo(), 2);
        Checks.due("undo()", x.undo(), 1);
        Checks.due("everything", Checks.view(x), Checks.view(Checks.made("vertices 3;edge 0 1 2;pile 0 5")));
        x.take(0, 4);
        Checks.due("undoCount()", x.undoCount(), 2);
        Checks.due("undo()", x.undo(), 1);
        Checks.due("pebbles(0)", x.pebbles(0), 5);
        Checks.due("undo()", x.undo(), 0);
        Checks.due("everything", Checks.view(x), Checks.view(new PebbleProofs()));
        PebbleProofs forth = new PebbleProofs();
        for (int i = 0; i < 30; i++) {
            forth.put(0, 1);
            forth.move(0, 1);
            Checks.due("pebbles(0)", forth.pebbles(0), 3);
            forth.undo();
            forth.undo();
        }
        Checks.due("everything", Checks.view(forth), Checks.view(new PebbleProofs()));

        Sentences.say("Returns the number of changes that can still be undone.");
        PebbleProofs y = new PebbleProofs();
        for (int i = 0; i < 12; i++) {
            y.put(1, 1);
        }
        for (int left = 9; left >= 0; left--) {
            Checks.due("undo()", y.undo(), left);
            Checks.due("undoCount()", y.undoCount(), left);
        }

        Sentences.say("Throws `IllegalStateException` if there is none to undo (reason() stays)");
        PebbleProofs none = new PebbleProofs();
        Checks.refused("undo() of a new object", none, () -> none.undo(), 0);
        Checks.refused("move(0, 2)", none, () -> none.move(0, 2), 4);
        Checks.refused("undo() of a refusal", none, () -> none.undo(), 4);
        none.put(0, 1);
        none.undo();
        Checks.refused("undo() again", none, () -> none.undo(), 4);
        Checks.due("pebbles(0)", none.pebbles(0), 4);
    }

    private static void undoCount() {
        Sentences.say("Returns the number of changes that can be undone.", "Returns 0 to 10.");
        PebbleProofs x = new PebbleProofs();
        for (int made = 0; made <= 25; made++) {
            Checks.due("undoCount()", x.undoCount(), Math.min(10, made));
            x.put(0, 1);
        }
        Checks.type(x, "vertices 1");
        x.load();
        Checks.due("undoCount() behind load()", x.undoCount(), 0);
        x.put(0, 1);
        Checks.refused("addEdge", x, () -> x.move(0, 0), 4);
        Checks.due("undoCount() behind a refusal", x.undoCount(), 1);
    }

    private static void save() {
        Sentences.say("Saves a copy of everything but the input buffer, the history and reason(),");
        PebbleProofs x = Checks.made(START);
        x.move(0, 1);
        x.weigh(0, 2, 1, 4);
        x.addEdge(0, 3);
        String saved = Checks.view(x);
        x.save();
        x.removeEdge(0, 1);
        x.put(3, 7);
        x.reach(2);
        x.weigh(0, 1, 2, 1);
        x.addStrategy(3);
        x.dropStrategy(0);
        Checks.refused("addEdge(0, 3)", x, () -> x.addEdge(0, 3), 1);
        Checks.type(x, "vertices");
        x.restore();
        Checks.due("everything", Checks.view(x), saved);
        Checks.due("the input buffer stays", Checks.length(x), 8);
        Checks.due("reason() stays", x.reason(), 1);

        Sentences.say("in place of an earlier one.");
        PebbleProofs y = new PebbleProofs();
        y.save();
        y.put(0, 1);
        y.save();
        y.put(0, 1);
        y.restore();
        Checks.due("pebbles(0)", y.pebbles(0), 5);
        y.take(0, 5);
        y.save();
        y.put(0, 9);
        y.restore();
        y.restore();
        Checks.due("pebbles(0)", y.pebbles(0), 0);

        Sentences.say("This is no change.");
        PebbleProofs z = new PebbleProofs();
        z.save();
        Checks.due("undoCount()", z.undoCount(), 0);
        Checks.state("undo()", () -> z.undo());
        z.put(0, 1);
        z.put(0, 2);
        z.save();
        Checks.due("undoCount()", z.undoCount(), 2);
        Checks.due("undo() of what was before", z.undo(), 1);
        Checks.due("pebbles(0)", z.pebbles(0), 5);
        z.restore();
        Checks.due("the copy stays as it was saved", z.pebbles(0), 7);

        Sentences.say("Returns the number of vertices.");
        for (int n = 1; n <= 6; n++) {
            Checks.due("save()", Checks.made(Checks.path(n)).save(), n);
        }
    }

    private static void restore() {
        Sentences.say("Makes everything but the input buffer and reason() equal to the saved copy, which is kept,");
        PebbleProofs x = Checks.made(START);
        x.reach(3);
        String saved = Checks.view(x);
        x.save();
        for (int i = 0; i < 3; i++) {
            x.put(0, 50);
            x.addEdge(0, 2);
            x.move(0, 2);
            x.dropStrategy(0);
            x.restore();
            Checks.due("everything", Checks.view(x), saved);
            Checks.due("distance(0, 2)", x.distance(0, 2), 2);
        }
        Checks.type(x, "vertices 1;");
        Checks.refused("move(1, 1)", x, () -> x.move(1, 1), 4);
        x.restore();
        Checks.due("the input buffer stays", Checks.length(x), 11);
        Checks.due("the input buffer stays", x.errorPosition(), 11);
        Checks.due("reason() stays", x.reason(), 4);

        Sentences.say("and clears the undo history.", "This is no change.");
        PebbleProofs y = new PebbleProofs();
        y.put(0, 1);
        y.save();
        y.put(0, 1);
        Checks.due("undoCount()", y.undoCount(), 2);
        y.restore();
        Checks.due("undoCount()", y.undoCount(), 0);
        Checks.state("undo()", () -> y.undo());
        Checks.due("pebbles(0)", y.pebbles(0), 5);
        y.put(1, 1);
        Checks.due("undo()", y.undo(), 0);
        Checks.state("undo()", () -> y.undo());
        Checks.due("everything", Checks.view(y), Checks.view(Checks.made("vertices 3;edge 0 1 2;pile 0 5")));

        Sentences.say("Returns the number of vertices afterwards.");
        for (int n = 1; n <= 6; n++) {
            PebbleProofs z = Checks.made(Checks.path(n));
            z.save();
            z.put(0, 1);
            Checks.due("restore()", z.restore(), n);
        }
    }

    private static void restoreOfNothing() {
        Sentences.say("Throws `IllegalStateException` if there is no copy (reason() stays)");
        PebbleProofs x = new PebbleProofs();
        Checks.refused("restore() of a new object", x, () -> x.restore(), 0);
        Checks.refused("take(1, 1)", x, () -> x.take(1, 1), 5);
        x.put(0, 1);
        Checks.refused("restore()", x, () -> x.restore(), 5);
        Checks.due("undoCount()", x.undoCount(), 1);
        Checks.due("pebbles(0)", x.pebbles(0), 5);
        x.save();
        Checks.type(x, "vertices 2;edge 0 1");
        x.load();
        Checks.refused("restore() behind load()", x, () -> x.restore(), 0);
        x.save();
        Checks.type(x, "vertices 2");
        Checks.argument("load()", () -> x.load());
        Checks.call("restore() behind a load() that failed", () -> x.restore(), 2);
    }

    private static void reason() {
        Sentences.say("Returns 1 to 7 (section 6);");
        PebbleProofs x = Checks.made("vertices 3;edge 0 1 2;pile 0 4;pile 1 999" + ";strategy 0".repeat(6));
        Object[][] all = {{1, (Callable<?>) () -> x.addEdge(0, 1)}, {2, (Callable<?>) () -> x.removeEdge(0, 2)},
            {3, (Callable<?>) () -> x.removeEdge(0, 1)}, {4, (Callable<?>) () -> x.move(0, 2)},
            {5, (Callable<?>) () -> x.take(0, 5)}, {6, (Callable<?>) () -> x.move(0, 1)},
            {7, (Callable<?>) () -> x.addStrategy(0)}};
        for (Object[] one : all) {
            Checks.refused("a change", x, (Callable<?>) one[1], (Integer) one[0]);
        }

        Sentences.say("Returns why a change was refused the last time.");
        for (Object[] first : all) {
            for (Object[] second : all) {
                Checks.refused("a change", x, (Callable<?>) first[1], (Integer) first[0]);
                Checks.refused("a change behind it", x, (Callable<?>) second[1], (Integer) second[0]);
            }
        }

        Sentences.say("0 if none was refused since load().");
        Checks.due("reason() of a new object", new PebbleProofs().reason(), 0);
        Checks.type(x, "vertices 3;edge 0 1 2");
        Checks.due("reason() before load()", x.reason(), 7);
        x.load();
        Checks.due("reason() behind load()", x.reason(), 0);
        x.put(0, 5);
        x.undo();
        Checks.due("reason() behind changes", x.reason(), 0);
    }

    private static void reasonStays() {
        Sentences.say("Returns why a change was refused the last time.");
        PebbleProofs x = new PebbleProofs();
        Checks.refused("take(2, 1)", x, () -> x.take(2, 1), 5);
        x.put(2, 1);
        Checks.due("behind a change", x.reason(), 5);
        x.take(2, 1);
        Checks.due("behind the change that was refused", x.reason(), 5);
        x.undo();
        Checks.due("behind undo()", x.reason(), 5);
        x.save();
        Checks.due("behind save()", x.reason(), 5);
        x.restore();
        Checks.due("behind restore()", x.reason(), 5);
        Checks.bounds("move(0, 3)", () -> x.move(0, 3));
        Checks.argument("put(0, 0)", () -> x.put(0, 0));
        Checks.argument("load()", () -> x.load());
        Checks.unsupported("treeNumber", () -> Checks.made("vertices 3;edge 0 1 2 0").treeNumber(0));
        Checks.due("behind other exceptions", x.reason(), 5);
        Checks.type(x, "vertices 1");
        Checks.due("behind errorPosition()", x.errorPosition(), -1);
        Checks.due("behind errorPosition()", x.reason(), 5);
    }
}
