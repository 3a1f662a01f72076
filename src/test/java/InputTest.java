/** Promises 1 to 5: a new object, the input buffer, and setup texts. */
public final class InputTest {
    private static final int FOUR = 0x61626364;
    private static final String PAIR = "vertices 2;edge 0 1;";

    private InputTest() {
    }

    /** Promise 1. */
    private static void newObject() {
        PebbleProofs x = new PebbleProofs();
        String told = Checks.view(Checks.made("vertices 3;edge 0 1 2;pile 0 4"));
        Checks.due("a new object", Checks.view(x), told);
        Checks.due("a new object", told, "3 2 4 0 0 2 ; 4 near 0 1 0; 0 near 1 0 1; 0 near 0 1 0");
        Checks.due("undoCount()", x.undoCount(), 0);
        Checks.due("reason()", x.reason(), 0);
        Checks.state("undo()", () -> x.undo());
        Checks.state("restore()", () -> x.restore());
        Checks.argument("truncate(1)", () -> x.truncate(1));
        Checks.call("truncate(0)", () -> x.truncate(0), 0);
        Checks.call("errorPosition()", () -> x.errorPosition(), 0);
        PebbleProofs other = new PebbleProofs();
        other.put(1, 5);
        Checks.due("another object", x.pebbles(1), 0);
    }

    /** Promise 2. */
    private static void append() {
        PebbleProofs x = new PebbleProofs();
        Checks.due("append of zeros", x.append(0, 0, 0, 0, 0), 0);
        Checks.due("append of three", x.append(0x61006200, 0, 0, 0, 0x63), 3);
        Checks.due("append of high bytes", x.append(0x80FF0000, 0xFF000000, 0, 0x80000000, -1), 11);
        Checks.due("append of twenty", x.append(FOUR, FOUR, FOUR, FOUR, FOUR), 31);
        x.truncate(0);
        // Each parameter has its place, and each byte in it: "vertices 2;edge 0 1;pile 1 7".
        Checks.due("append", x.append(0x76657274, 0x69636573, 0x20323B65, 0x64676520, 0x30203100), 19);
        Checks.due("append", x.append(0x3B00, 0x70696C00, 0x00652031, 0, 0x2037), 28);
        Checks.due("errorPosition()", x.errorPosition(), -1);
        Checks.due("load()", x.load(), 2);
        Checks.due("pebbles(1)", x.pebbles(1), 7);

        for (int i = 0; i < 19; i++) {
            x.append(FOUR, FOUR, FOUR, FOUR, FOUR);
        }
        Checks.due("append of ten", x.append(FOUR, FOUR, 0x61610000, 0, 0), 390);
        Checks.state("append of twenty to 390", () -> x.append(FOUR, FOUR, FOUR, FOUR, FOUR));
        Checks.state("append of eleven to 390", () -> x.append(FOUR, FOUR, 0x61616100, 0, 0));
        Checks.due("append of nothing", x.append(0, 0, 0, 0, 0), 390);
        Checks.argument("truncate(391)", () -> x.truncate(391));
        Checks.due("append of ten to 390", x.append(0x61, 0x6100, FOUR, FOUR, 0), 400);
        for (int one : new int[] {1, 0x100, 0x10000, 0x1000000, 0x80000000, 255}) {
            Checks.state("append of one to 400", () -> x.append(one, 0, 0, 0, 0));
            Checks.state("append of one to 400", () -> x.append(0, one, 0, 0, 0));
            Checks.state("append of one to 400", () -> x.append(0, 0, one, 0, 0));
            Checks.state("append of one to 400", () -> x.append(0, 0, 0, one, 0));
            Checks.state("append of one to 400", () -> x.append(0, 0, 0, 0, one));
        }
        Checks.due("append of nothing to 400", x.append(0, 0, 0, 0, 0), 400);
        Checks.due("no refusal", x.reason(), 0);
        Checks.due("no change", x.undoCount(), 0);
    }

    /** Promise 3. */
    private static void truncate() {
        PebbleProofs x = new PebbleProofs();
        Checks.due("length", Checks.type(x, "vertices 1;pile 0 5;;"), 21);
        Checks.argument("truncate(-1)", () -> x.truncate(-1));
        Checks.argument("truncate(22)", () -> x.truncate(22));
        Checks.argument("truncate(least)", () -> x.truncate(Integer.MIN_VALUE));
        Checks.argument("truncate(greatest)", () -> x.truncate(Integer.MAX_VALUE));
        Checks.due("truncate(21)", x.truncate(21), 21);
        Checks.due("errorPosition()", x.errorPosition(), 20);
        Checks.due("truncate(19)", x.truncate(19), 19);
        Checks.due("errorPosition()", x.errorPosition(), -1);
        Checks.argument("truncate(20)", () -> x.truncate(20));
        Checks.due("append of 7", x.append(0x37, 0, 0, 0, 0), 20);
        Checks.due("load()", x.load(), 1);
        Checks.due("pebbles(0)", x.pebbles(0), 57);
        Checks.due("truncate(0)", x.truncate(0), 0);
        Checks.argument("truncate(1)", () -> x.truncate(1));
    }

    private static void error(String text, int position) {
        Checks.due("errorPosition() of \"" + text + "\"", Checks.errorIn(text), position);
    }

    /** Promise 4: the first statement, tokens, semicolons. */
    private static void errorPosition() {
        error("vertices 3;edge 0 1 2;pile 0 4", -1);
        error("", 0);
        error("   ", 3);
        error("vertices", 8);
        error("vertices  ", 10);
        error("vertices 0", 9);
        error("vertices 7", 9);
        error("vertices 1", -1);
        error("vertices1", -1);
        error("  vertices  1  ", -1);
        error("vertices 001", -1);
        error("vertices 0001", 9);
        error("vertices 000", 9);
        error("vertices 1;", 11);
        error("vertices 1; ", 12);
        error("vertices 1;;", 11);
        error(";vertices 1", 0);
        error("vertices 1 1", 11);
        error("vertices 1 pile 0 1", 11);
        error("vertices x", 9);
        error("vertices;", 8);
        error("vertice 1", 0);
        error("verticess 1", 0);
        error("wertices 1", 0);
        error("verticez 1", 0);
        error("vertices 2;adge 0 1", 11);
        error("vertices 1;tile 0 1", 11);
        error("vertices 1;strategx 0", 11);
        error("vertices 1;atrategy 0", 11);
        error("Vertices 1", 0);
        error("verticeS 1", 0);
        error("1", 0);
        error("edge 0 1", 0);
        error(" pile 0 1", 1);
        error("strategy 0", 0);
        error("vertices 1;vertices 1", 11);
        error("vertices 1;piles 0 1", 11);
        error("vertices 1;pil 0 1", 11);
        error("vertices 1;7", 11);
        error("vertices 1\t", 10);
        error("vertices 1\n", 10);
        error("vertices 1\u00a0", 10);
        error("vertices 1\u00ff", 10);
        error("vertices -1", 9);
        error("vertices 2", 10);
        error("vertices 2  ", 12);
        error("vertices 6;edge 0 1 2 3 4 5", -1);
        error("vertices 6;edge 0 1 2 3 4;pile 5 1", 34);
        error("vertices 6;edge 0 1 2;edge 3 4 5", 32);
        error("vertices 6;edge 0 1 2;edge 3 4 5;edge 5 0", -1);
        error("vertices\u00e9 1", 8);
        error("vertices 1:", 10);
        error("vertices 1/", 10);
        error("vertices 1{", 10);
        error("vertices 1`", 10);
    }

    private static void errorInEdgeOrPile() {
        error("vertices 2;edge", 15);
        error("vertices 2;edge ;", 16);
        error("vertices 2;edge 0", 17);
        error("vertices 2;edge 0;", 17);
        error("vertices 2;edge 0 0", 18);
        error("vertices 2;edge 2 0", 16);
        error("vertices 2;edge 0 2", 18);
        error("vertices 2;edge 0 1", -1);
        error("vertices 2;edge0 1", -1);
        error("vertices 2;edge 01", 18);
        error("vertices 2;edge 1 000", -1);
        error("vertices 2;edge 1 0000", 18);
        error("vertices 2;edge 0 1 0", 20);
        error("vertices 2;edge 0 1 1", 20);
        error("vertices 2;edge 0 1 x", 20);
        error("vertices 2;edge 0 1;edge 1 0", 27);
        error("vertices 2;edge 0 1;edge 0 1", 27);
        error("vertices 3;edge 0 1 2 0", -1);
        error("vertices 3;edge 0 1 2 0 1", 24);
        error("vertices 3;edge 0 1 2;edge 2 0 1", 31);
        error("vertices 3;edge 0 1", 19);
        error("vertices 3;edge 0 1 ", 20);
        error("vertices 1;edge 0 0", 18);
        error("vertices 1;pile", 15);
        error("vertices 1;pile 0", 17);
        error("vertices 1;pile 0;", 17);
        error("vertices 1;pile 1 1", 16);
        error("vertices 1;pile 0 1 1", 20);
        error("vertices 1;pile 0 0", -1);
        error("vertices 1;pile 0 999", -1);
        error("vertices 1;pile 0 099", -1);
        error("vertices 1;pile 0 1000", 18);
        error("vertices 1;pile 0 0999", 18);
        error("vertices 1;pile 0 99999999999", 18);
        error("vertices 1;pile 0 1;pile 0 2", -1);
        error("vertices 1;pile 0 x", 18);
        error("vertices 1 ; pile 0 1 ", -1);
    }

    private static void errorInStrategy() {
        error(PAIR + "strategy", 28);
        error(PAIR + "strategy;", 28);
        error(PAIR + "strategy 2", 29);
        error(PAIR + "strategy 0", -1);
        error(PAIR + "strategy 0 0 1 1", 31);
        error(PAIR + "strategy 0 2 1 1", 31);
        error(PAIR + "strategy 0 1", 32);
        error(PAIR + "strategy 0 1;", 32);
        error(PAIR + "strategy 0 1 2 1", 33);
        error(PAIR + "strategy 0 1 0", 34);
        error(PAIR + "strategy 0 1 0;", 34);
        error(PAIR + "strategy 0 1 0 64", -1);
        error(PAIR + "strategy 0 1 0 65", 35);
        error(PAIR + "strategy 0 1 0 0", -1);
        error(PAIR + "strategy 0 1 1 1", -1);
        error(PAIR + "strategy 0 1 0 5 1 1 6", -1);
        error(PAIR + "strategy 0 1 0 5 0", 37);
        error(PAIR + "strategy 0 1 0 5 1", 38);
        error(PAIR + "strategy 0 1 0 5 x", 37);
        String six = PAIR + "strategy 0;".repeat(5) + "strategy 1";
        error(six, -1);
        error(six + ";strategy 1", 86);
        error(six + ";pile 0 1", -1);
        error(six + ";strategy", 86);
    }

    /** Promise 5. */
    private static void load() {
        PebbleProofs x = new PebbleProofs();
        x.move(0, 1);
        x.save();
        x.put(2, 2);
        Checks.state("move(1, 1)", () -> x.move(1, 1));
        String before = Checks.view(x);
        Checks.type(x, "vertices 4;edge 2 1;edge 3 2 0;pile 3 8;pile 0 1;pile 3 12;strategy 1");
        Checks.due("append", Checks.type(x, " 2 1 4 0 3 1;strategy 0 1 1 1 1 2 64;"), 106);
        Checks.argument("load()", () -> x.load());
        Checks.due("after a load that failed", Checks.view(x), before);
        Checks.due("reason()", x.reason(), 4);
        Checks.due("undoCount()", x.undoCount(), 2);
        Checks.due("the buffer is kept", x.append(0, 0, 0, 0, 0), 106);
        Checks.due("restore()", x.restore(), 3);
        x.put(1, 1);
        x.truncate(105);
        Checks.due("load()", x.load(), 4);
        Checks.due("after load()", Checks.view(x),
                "4 3 13 0 2 2 ; 1 near 0 0 1 0; 0 near 0 0 1 0; 0 near 1 1 0 1; 12 near 0 0 1 0"
                + "; strategy for 1 1/3 0/-1 4/1 0/-1; strategy for 0 0/-1 64/2 0/-1 0/-1");
        Checks.due("reason()", x.reason(), 0);
        Checks.due("undoCount()", x.undoCount(), 0);
        Checks.state("undo()", () -> x.undo());
        Checks.state("restore()", () -> x.restore());
        Checks.argument("truncate(1)", () -> x.truncate(1));
        Checks.due("the buffer is empty", x.append(0, 0, 0, 0, 0), 0);
        Checks.argument("load() of nothing", () -> x.load());
        // Nothing stays of a text that was read before.
        Checks.type(x, "vertices 4;edge 0 1 2 3;pile 0 9;pile 3 9;strategy 0 1 0 4;strategy 1;pile 9 9");
        Checks.due("errorPosition()", x.errorPosition(), 75);
        x.truncate(23);
        Checks.due("load()", x.load(), 4);
        Checks.due("after load()", Checks.view(x),
                "4 3 0 0 0 3 ; 0 near 0 1 0 0; 0 near 1 0 1 0; 0 near 0 1 0 1; 0 near 0 0 1 0");
        x.addStrategy(0);
        Checks.due("parent", x.strategy(0, 1, 2), -1);
        Checks.due("six vertices", Checks.made("vertices 6;edge 5 4 3 2 1 0").count(5), 5);
        Checks.due("one vertex", Checks.made("vertices 1").count(0), 1);
    }

    public static void main(String[] args) {
        newObject();
        append();
        truncate();
        errorPosition();
        errorInEdgeOrPile();
        errorInStrategy();
        load();
        Checks.end();
    }
}
