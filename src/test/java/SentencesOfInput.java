/** Section 7 and promises 1 to 5: each sentence and the boundaries that it names. */
final class SentencesOfInput {
    private static final int LEAST = Integer.MIN_VALUE;
    private static final int GREATEST = Integer.MAX_VALUE;
    private static final int FOUR = 0x61626364;
    private static final String PAIR = "vertices 2;edge 0 1";

    private SentencesOfInput() {
    }

    static void check() {
        Sentences.part("SETUP TEXT");
        statements();
        tokens();
        spaces();
        vertices();
        edges();
        piles();
        strategies();
        errorPositions();
        tokensNotAccepted();
        Sentences.part("Promise 1");
        newObject();
        Sentences.part("Promise 2");
        append();
        appendBeyond();
        Sentences.part("Promise 3");
        truncate();
        Sentences.part("Promise 4");
        errorPosition();
        Sentences.part("Promise 5");
        load();
    }

    private static void error(String text, int position) {
        Checks.due("errorPosition() of \"" + text + "\"", Checks.errorIn(text), position);
        PebbleProofs x = Checks.typed(text);
        Checks.due("load() of \"" + text + "\"", Checks.answer(() -> x.load()) instanceof Integer, position == -1);
    }

    private static void valid(String... texts) {
        for (String text : texts) {
            error(text, -1);
        }
    }

    /** Texts that end too early, or whose graph is not connected at their end. */
    private static void ends(String... texts) {
        for (String text : texts) {
            error(text, text.length());
        }
    }

    // ---- Section 7

    private static void statements() {
        Sentences.say("A setup text consists of statements separated by semicolons");
        valid("vertices 1", "vertices 1;pile 0 1", "vertices 1;pile 0 1;pile 0 2;strategy 0;pile 0 3");
        ends("vertices 1;", "vertices 1;pile 0 1;", "vertices 1 ; ");
        error("vertices 1;;", 11);
        error("vertices 1;;pile 0 1", 11);
        error("vertices 1;pile 0 1;;pile 0 1", 20);
        error("vertices 1;pile 0 1 pile 0 1", 20);
        error("vertices 1 pile 0 1", 11);
        error(PAIR + " edge 0 1", 20);
        error("vertices 1;strategy 0 strategy 0", 22);
        error("vertices 1,pile 0 1", 10);

        Sentences.say("the first one is \"vertices\".");
        ends("", " ", "      ");
        error(";", 0);
        error(";vertices 1", 0);
        error(" ;vertices 1", 1);
        error("edge 0 1;vertices 2", 0);
        error("pile 0 1;vertices 1", 0);
        error("strategy 0;vertices 1", 0);
        error("1", 0);
        error("6 vertices", 0);
    }

    /** Each byte at the end of a token, between two, and in place of a semicolon. */
    private static void eachByte() {
        for (char one = 1; one < 256; one++) {
            boolean digit = one >= '0' && one <= '9';
            boolean letter = one >= 'a' && one <= 'z';
            error("vertices 1" + one, one == ' ' ? -1 : digit ? 9 : one == ';' ? 11 : 10);
            error("vertices" + one + "1", one == ' ' || one == '0' ? -1 : letter ? 0 : 8);
            error("vertices 1" + one + "pile 0 3", one == ';' ? -1 : one == ' ' ? 11 : digit ? 9 : 10);
            error(one + "vertices 1", one == ' ' ? -1 : 0);
            error("vertices 1;pile 0 3" + one, one == ' ' || digit ? -1 : one == ';' ? 20 : 19);
        }
    }

    /** Each letter of a word that begins a statement counts. */
    private static void eachLetter(String before, String word, String behind) {
        error(before + word + behind, -1);
        for (int i = 0; i < word.length(); i++) {
            String left = word.substring(0, i);
            String right = word.substring(i + 1);
            for (char letter : new char[] {'a', 'm', 'z', (char) (word.charAt(i) + 1), (char) (word.charAt(i) - 1)}) {
                if (letter != word.charAt(i) && letter >= 'a' && letter <= 'z') {
                    error(before + left + letter + right + behind, before.length());
                }
            }
            error(before + left + right + behind, before.length());
            error(before + left + Character.toUpperCase(word.charAt(i)) + right + behind, before.length());
        }
    }

    private static void tokens() {
        Sentences.say("Tokens are words (maximal runs of letters a to z), numbers (maximal runs of digits,",
                "and single other bytes.");
        eachByte();
        eachLetter("", "vertices", " 1");
        eachLetter("vertices 2;", "edge", " 0 1");
        eachLetter("vertices 1;", "pile", " 0 1");
        eachLetter("vertices 1;", "strategy", " 0");
        valid("vertices1;pile0 1", "vertices1;strategy0", "vertices2;edge0 1;strategy0 1 0 1");
        error("verticess 1", 0);
        error("vertice 1", 0);
        error("verticespile 1", 0);
        error("Vertices 1", 0);
        error("verticeS 1", 0);
        error("vertices 1;pilea 0 1", 11);
        error("vertices 1;pil 0 1", 11);
        error("vertices 1;Pile 0 1", 11);
        error("vertices 1;pile 0 1pile", 19);
        error("vertices 1;pile 0 1;pile0", 25);
        ends("vertices 2;edge 01", PAIR + ";pile 01");
        error("vertices 1;pile 11", 16);
        error("vertices 1;pile 0-1", 17);
        error("vertices 1;pile 0 -1", 18);
        error("vertices 1;pile 0 +1", 18);
        error("vertices 1;pile 0 1.0", 19);

        Sentences.say("at most three with leading zeros, which do not matter for the value)");
        valid("vertices 01", "vertices 001", "vertices 006;edge 000 001 02 3 004 05", "vertices 1;pile 000 000");
        error("vertices 0001", 9);
        error("vertices 000000000000000000001", 9);
        error("vertices 000", 9);
        error("vertices 007", 9);
        error("vertices 2;edge 0000 1", 16);
        error("vertices 2;edge 0 0001", 18);
        error("vertices 2;edge 0 1 0001", 20);
        error("vertices 1;pile 0000 1", 16);
        error("vertices 1;pile 0 0000", 18);
        error("vertices 1;pile 0 0009", 18);
        error(PAIR + ";strategy 0000", 29);
        error(PAIR + ";strategy 0 0001 0 1", 31);
        error(PAIR + ";strategy 0 1 0000 1", 33);
        error(PAIR + ";strategy 0 1 0 0000", 35);
        error(PAIR + ";strategy 0 1 0 0064", 35);
        PebbleProofs x = Checks.made("vertices 002;edge 00 001;pile 01 007;pile 000 088;strategy 001 00 001 009");
        Checks.due("vertices", x.count(0), 2);
        Checks.due("pebbles(0)", x.pebbles(0), 88);
        Checks.due("pebbles(1)", x.pebbles(1), 7);
        Checks.due("target", x.strategy(0, 0, 0), 1);
        Checks.due("weight", x.strategy(0, 0, 1), 9);
        Checks.due("parent", x.strategy(0, 0, 2), 1);
    }

    private static void spaces() {
        Sentences.say("Spaces (byte 32) may stand before and after every token.");
        valid("  vertices  3  ;  edge  0  1  2  ;  pile  0  4  ;  strategy  2  1  2  4  ",
                " vertices 1", "vertices 1 ", "vertices  1", "vertices 1 ;pile 0 1", "vertices 1; pile 0 1");
        valid(" ".repeat(390) + "vertices 1", "vertices" + " ".repeat(391) + "1", "vertices 1" + " ".repeat(390));
        error("vert ices 1", 0);
        error("vertices 1;pile 0 1 2", 20);
        error("   x", 3);
        error("vertices   7", 11);
        error("vertices 1   x   ", 13);
        ends("vertices   ", "vertices 1 ; ", "vertices 1;pile 0   ", "vertices 2   ");
    }

    private static void vertices() {
        Sentences.say("vertices MANY (1 to 6;");
        error("vertices 0", 9);
        error("vertices 00", 9);
        for (int n = 1; n <= 6; n++) {
            Checks.due("count(0)", Checks.made(Checks.path(n)).count(0), n);
            error(Checks.path(n), -1);
        }
        for (int n : new int[] {7, 8, 9, 10, 11, 16, 60, 99, 257, 999, 1000, 1001}) {
            error("vertices " + n, 9);
        }
        error("vertices 65536", 9);
        error("vertices 4294967297", 9);
        error("vertices 18446744073709551617", 9);
        error("vertices", 8);
        error("vertices;", 8);
        error("vertices one", 9);

        Sentences.say("only as the first statement).");
        error("vertices 1;vertices 1", 11);
        error("vertices 3;edge 0 1 2;vertices 3", 22);
        error("vertices 1;pile 0 1;vertices 2", 20);
        error("vertices vertices 1", 9);
        error("vertices 1 1", 11);
        error("vertices 1 vertices 1", 11);
    }

    private static void edges() {
        Sentences.say("edge VERTEX VERTEX {VERTEX}");
        ends("vertices 2;edge", "vertices 2;edge ", "vertices 2;edge 0", "vertices 2;edge 1 ");
        error("vertices 2;edge;", 15);
        error("vertices 2;edge 0;", 17);
        error("vertices 2;edge x", 16);
        error("vertices 2;edge 0 x", 18);
        error("vertices 2;edge 0 1 x", 20);
        error("vertices 2;edge 0,1", 17);
        valid("vertices 2;edge 0 1", "vertices 2;edge 1 0", "vertices 3;edge 0 1 2", "vertices 3;edge 0 1 2 0");

        Sentences.say("(a path: an edge between each vertex and the next one).");
        PebbleProofs x = Checks.made("vertices 6;edge 5 3 1 0 2 4");
        Checks.due("count(1)", x.count(1), 5);
        int[] path = {5, 3, 1, 0, 2, 4};
        for (int i = 0; i < 6; i++) {
            for (int k = 0; k < 6; k++) {
                int v = path[i];
                int w = path[k];
                Checks.due("isEdge(" + v + ", " + w + ")", x.isEdge(v, w), Math.abs(i - k) == 1);
            }
        }
        PebbleProofs y = Checks.made("vertices 5;edge 0 1 2 3 4 0 2 4 1 3 0");
        Checks.due("all edges of five vertices as one path", y.count(1), 10);
        Checks.due("no edge back to the first vertex", Checks.made("vertices 3;edge 0 1 2").isEdge(2, 0), false);
    }

    private static void piles() {
        Sentences.say("pile VERTEX PEBBLES (0 to 999;");
        valid("vertices 1;pile 0 0", "vertices 1;pile 0 1", "vertices 1;pile 0 998", "vertices 1;pile 0 999");
        error("vertices 1;pile 0 1000", 18);
        error("vertices 1;pile 0 9990", 18);
        error("vertices 1;pile 0 99999999999999999999", 18);
        error("vertices 1;pile 1 0", 16);
        error("vertices 1;pile 999 0", 16);
        error(PAIR + ";pile 2 0", 25);
        valid(PAIR + ";pile 1 0");
        error(Checks.path(6) + ";pile 6 0", 33);
        ends("vertices 1;pile", "vertices 1;pile 0", "vertices 1;pile 0 ");
        error("vertices 1;pile;", 15);
        error("vertices 1;pile 0;", 17);
        error("vertices 1;pile x", 16);
        error("vertices 1;pile 0 x", 18);
        error("vertices 1;pile 0 1 0", 20);
        for (int many : new int[] {0, 1, 10, 99, 100, 998, 999}) {
            Checks.due("pebbles(0)", Checks.made("vertices 1;pile 0 " + many).pebbles(0), many);
        }

        Sentences.say("the last one counts for a vertex; without it, it has none).");
        PebbleProofs x = Checks.made("vertices 3;pile 0 9;pile 2 999;pile 0 8;edge 0 1 2;pile 2 0");
        Checks.due("the last one counts", x.pebbles(0), 8);
        Checks.due("without a pile", x.pebbles(1), 0);
        Checks.due("the last one counts, also 0", x.pebbles(2), 0);
        Checks.due("count(2)", x.count(2), 8);
        Checks.due("a graph without piles", Checks.made(Checks.path(6)).count(2), 0);
    }

    private static void strategies() {
        Sentences.say("strategy TARGET {VERTEX PARENT WEIGHT}");
        String text = PAIR + ";strategy ";
        error(PAIR + ";strategy", 28);
        error(PAIR + ";strategy;", 28);
        error(text + "x", 29);
        error(text + "2", 29);
        valid(text + "0", text + "1", text + "0;strategy 1", text + "0 1 0 1", text + "0 1 0 1 1 0 2");
        ends(text + "0 1", text + "0 1 0", text + "0 1 0 1 1", text + "0 1 0 1 1 0");
        error(text + "0 1;", 32);
        error(text + "0 1 0;", 34);
        error(text + "0 x", 31);
        error(text + "0 1 x", 33);
        error(text + "0 1 0 x", 35);
        error(text + "0 2 0 1", 31);
        error(text + "0 1 2 1", 33);
        error(text + "0 1 0 1 x", 37);
        // A parent is any vertex: the target, the vertex itself, one without an edge.
        PebbleProofs any = Checks.made("vertices 4;edge 0 1 2 3;strategy 0 1 1 5 2 0 6 3 1 7");
        Checks.due("the vertex itself", any.strategy(0, 1, 2), 1);
        Checks.due("the target, no neighbour", any.strategy(0, 2, 2), 0);
        Checks.due("no neighbour", any.strategy(0, 3, 2), 1);
        PebbleProofs early = Checks.made("vertices 2;strategy 1 0 1 5;edge 0 1");
        Checks.due("before the edges", early.wrong(0), -1);

        Sentences.say("(WEIGHT 0 to 64;");
        valid(text + "0 1 0 0", text + "0 1 0 1", text + "0 1 0 63", text + "0 1 0 64", text + "0 1 0 064");
        error(text + "0 1 0 65", 35);
        error(text + "0 1 0 99", 35);
        error(text + "0 1 0 640", 35);
        error(text + "0 1 0 999", 35);
        error(text + "0 1 0 1000", 35);
        error(text + "0 1 0 -1", 35);
        Checks.due("weight", Checks.made(text + "0 1 0 64").strategy(0, 1, 1), 64);
        Checks.due("weight", Checks.made(text + "0 1 0 0").strategy(0, 1, 1), 0);

        Sentences.say("at most 6 strategies;");
        for (int many = 0; many <= 6; many++) {
            Checks.due("count(4)", Checks.made(PAIR + ";strategy 0".repeat(many)).count(4), many);
        }
        error(PAIR + ";strategy 0".repeat(7), 19 + 66 + 1);

        Sentences.say("the last one counts for a vertex).");
        PebbleProofs x = Checks.made("vertices 3;edge 0 1 2;strategy 0 1 0 8 2 1 4 1 2 3;strategy 0 2 1 9 2 0 0");
        Checks.due("weight", x.strategy(0, 1, 1), 3);
        Checks.due("parent", x.strategy(0, 1, 2), 2);
        Checks.due("weight", x.strategy(0, 2, 1), 4);
        Checks.due("weight in the second strategy", x.strategy(1, 2, 1), 0);
        Checks.due("parent in the second strategy", x.strategy(1, 2, 2), 0);
        Checks.due("weight of a vertex that is not told", x.strategy(1, 1, 1), 0);
        Checks.due("parent of a vertex that is not told", x.strategy(1, 1, 2), -1);
    }

    private static void errorPositions() {
        Sentences.say("The error position of a text is the offset of the first token that cannot be accepted,");
        error("vertices 3;edge 0 5;pile 9 9", 18);
        error("vertices 3;edge 0 1;pile 3 x;vertices", 25);
        error("vertices 9;edge", 9);
        error("  vertices  7", 12);
        error("x vertices 7", 0);
        error("vertices 1" + " ".repeat(389) + "x", 399);
        error("vertices 1" + " ".repeat(387) + "777", 397);

        Sentences.say("or the length of the text if the text ends too early,");
        ends("", "  ", "vertices", "vertices  ", "vertices 1;", "vertices 1;  ");
        ends("vertices 3;edge", "vertices 3;edge 0", "vertices 3;edge 0 1 2;", "vertices 3;edge 0 1 2;pile");
        ends("vertices 3;edge 0 1 2;pile 0", "vertices 3;edge 0 1 2;strategy 0 1", PAIR + ";strategy 0 1 0");
        ends("vertices 1" + " ".repeat(389) + ";", "vertices" + " ".repeat(392));
        // A word that is cut off is a word of its own.
        error("vertice", 0);
        error("vertices 1;pil", 11);
        error("vertices 2;edg", 11);

        Sentences.say("or if the graph is not connected at its end.");
        ends("vertices 2", "vertices 6", "vertices 2  ", "vertices 3;edge 0 1", "vertices 3;edge 1 2", "vertices 3;edge 0 2");
        ends("vertices 6;edge 0 1 2 3 4", "vertices 6;edge 1 2 3 4 5", "vertices 6;edge 0 1 2 0;edge 3 4 5 3");
        ends("vertices 4;edge 0 1;edge 2 3", "vertices 2;pile 0 1;pile 1 1", "vertices 5;edge 0 4;edge 1 2 3 1 ");
        valid("vertices 1", "vertices 4;edge 0 1;edge 2 3;edge 1 2", "vertices 6;edge 0 1 2 0;edge 3 4 5 3;edge 2 5");
        valid("vertices 3;pile 0 1;edge 0 1;pile 1 1;edge 2 1", "vertices 6;edge 0 5 1 4 2 3");
        error("vertices 3;edge 0 1;x", 20);
        error("vertices 3;edge 0 1 x", 20);
    }

    private static void tokensNotAccepted() {
        Sentences.say("A token cannot be accepted if no statement can continue with it;");
        error("vertices ;", 9);
        error("vertices edge", 9);
        error("vertices 1;1", 11);
        error("vertices 1;x", 11);
        error("vertices 1;;", 11);
        error("vertices 2;edge edge", 16);
        error("vertices 2;edge 0 1 pile", 20);
        error("vertices 1;pile pile", 16);
        error("vertices 1;pile 0 0 0", 20);
        error("vertices 1;strategy strategy", 20);

        Sentences.say("if it is a number of more than three digits or out of its range;");
        error("vertices 0003", 9);
        error("vertices 7", 9);
        error("vertices 2;edge 2", 16);
        error("vertices 2;edge 0 2", 18);
        error("vertices 2;edge 0 0001", 18);
        error("vertices 1;pile 1", 16);
        error("vertices 1;pile 0 1000", 18);
        error("vertices 1;strategy 1", 20);
        error(PAIR + ";strategy 0 2", 31);
        error(PAIR + ";strategy 0 1 2", 33);
        error(PAIR + ";strategy 0 1 0 65", 35);
        error(Checks.path(6) + ";edge 0 6", 35);
        error(Checks.path(6) + ";strategy 6", 37);

        Sentences.say("a VERTEX of \"edge\" that is the same as the one before,");
        error("vertices 1;edge 0 0", 18);
        error("vertices 2;edge 1 1", 18);
        error("vertices 2;edge 0 1 1", 20);
        error("vertices 3;edge 0 1 2 2", 22);
        error("vertices 3;edge 0 00", 18);
        valid("vertices 3;edge 0 1 2 0", "vertices 4;edge 0 1 2 0 3");

        Sentences.say("or between which and the one before there is an edge already;");
        error("vertices 2;edge 0 1 0", 20);
        error("vertices 2;edge 0 1;edge 0 1", 27);
        error("vertices 2;edge 0 1;edge 1 0", 27);
        error("vertices 3;edge 0 1 2 0 1", 24);
        error("vertices 3;edge 0 1 2 0 2", 24);
        error("vertices 3;edge 0 1 2;pile 0 1;edge 0 2 1", 40);
        valid("vertices 3;edge 0 1;edge 0 2;edge 2 1");

        Sentences.say("a VERTEX of a strategy that is its target.");
        error(PAIR + ";strategy 0 0 1 1", 31);
        error(PAIR + ";strategy 1 1 0 1", 31);
        error(PAIR + ";strategy 0 1 0 1 0", 37);
        error(PAIR + ";strategy 0 00 1 1", 31);
        error(PAIR + ";strategy 1;strategy 0 0 1 1", 42);
        error("vertices 1;strategy 0 0 0 0", 22);
        valid(PAIR + ";strategy 1 0 1 1", PAIR + ";strategy 0;strategy 1 0 1 1");

        Sentences.say("The word of a seventh strategy is an error.");
        String six = PAIR + ";strategy 0".repeat(6);
        valid(six, six + ";pile 0 1", six + " 1 0 4");
        ends(six + ";");
        error(six + ";strategy", 86);
        error(six + ";strategy 1", 86);
        error(six + ";  strategy 9", 88);
        error(six + ";pile 0 1;strategy 0", 95);
        error(six + ";strategyy", 86);
    }

    // ---- Promises

    private static void newObject() {
        Sentences.say("Creates what is told by the text \"vertices 3;edge 0 1 2;pile 0 4\",");
        PebbleProofs x = new PebbleProofs();
        Checks.due("count(0)", x.count(0), 3);
        Checks.due("count(1)", x.count(1), 2);
        Checks.due("isEdge(0, 1)", x.isEdge(0, 1), true);
        Checks.due("isEdge(1, 2)", x.isEdge(1, 2), true);
        Checks.due("pebbles(0)", x.pebbles(0), 4);
        Checks.due("count(2)", x.count(2), 4);
        Checks.due("count(3)", x.count(3), 0);
        Checks.due("count(4)", x.count(4), 0);
        Checks.due("count(5)", x.count(5), 2);
        Checks.due("undoCount()", x.undoCount(), 0);
        Checks.due("reason()", x.reason(), 0);
        Checks.state("undo()", () -> x.undo());
        Checks.state("restore()", () -> x.restore());
        Checks.due("all of it", Checks.view(x), Checks.view(Checks.made("vertices 3;edge 0 1 2;pile 0 4")));

        Sentences.say("with an empty input buffer.");
        PebbleProofs y = new PebbleProofs();
        Checks.due("errorPosition()", y.errorPosition(), 0);
        Checks.argument("load()", () -> y.load());
        Checks.argument("truncate(1)", () -> y.truncate(1));
        Checks.call("truncate(0)", () -> y.truncate(0), 0);
        Checks.due("append of nothing", Checks.length(y), 0);
    }

    private static void append() {
        Sentences.say("Appends bytes to the input buffer.");
        PebbleProofs x = Checks.typed("vertices");
        x.append(0x20320000, 0, 0, 0, 0);
        Checks.due("errorPosition()", x.errorPosition(), 10);
        Checks.type(x, ";edge 0 1");
        Checks.due("errorPosition()", x.errorPosition(), -1);
        Checks.due("load()", x.load(), 2);

        Sentences.say("Each parameter holds four bytes, the most significant byte first.",
                "- `a`: bytes 0 to 3", "- `b`: bytes 4 to 7", "- `c`: bytes 8 to 11", "- `d`: bytes 12 to 15",
                "- `e`: bytes 16 to 19");
        PebbleProofs y = new PebbleProofs();
        Checks.due("\"vertices 1;pile 0 57\"", y.append(0x76657274, 0x69636573, 0x20313B70, 0x696C6520, 0x30203537), 20);
        Checks.due("load()", y.load(), 1);
        Checks.due("pebbles(0)", y.pebbles(0), 57);
        for (int one : new int[] {0x80000000, 0xFF000000, 0x00FF0000, 0x0000FF00, 0x000000FF, 0x00000001}) {
            PebbleProofs z = new PebbleProofs();
            Checks.due("append of one byte", z.append(one, 0, 0, 0, 0), 1);
            Checks.due("append of one byte", z.append(0, one, 0, 0, 0), 2);
            Checks.due("append of one byte", z.append(0, 0, one, 0, 0), 3);
            Checks.due("append of one byte", z.append(0, 0, 0, one, 0), 4);
            Checks.due("append of one byte", z.append(0, 0, 0, 0, one), 5);
        }

        Sentences.say("Bytes with the value 0 are skipped and do not count.");
        PebbleProofs zeros = new PebbleProofs();
        Checks.due("append of zeros", zeros.append(0, 0, 0, 0, 0), 0);
        Checks.due("append", zeros.append(0x76006500, 0x00720074, 0, 0x69000063, 0x00006500), 7);
        Checks.due("append", zeros.append(0, 0x73, 0x00310000, 0, 0), 9);
        Checks.due("errorPosition() of \"vertices1\"", zeros.errorPosition(), -1);

        Sentences.say("Returns the new length of the buffer.");
        PebbleProofs long20 = new PebbleProofs();
        Checks.due("append of twenty", long20.append(FOUR, FOUR, FOUR, FOUR, FOUR), 20);
        Checks.due("append of one", long20.append(0, 0, 0x6100, 0, 0), 21);
        long20.truncate(5);
        Checks.due("append of four", long20.append(-1, 0, 0, 0, 0), 9);
    }

    private static void appendBeyond() {
        Sentences.say("Throws `IllegalStateException` if the buffer would have more than 400 bytes");
        for (int before = 378; before <= 400; before++) {
            for (int more = 0; more <= 20; more++) {
                int[] words = new int[5];
                for (int i = 0; i < more; i++) {
                    words[i / 4] |= 0x80 << 8 * (i % 4);
                }
                PebbleProofs x = Checks.typed("vertices 1" + " ".repeat(before - 10));
                Object due = before + more > 400 ? "IllegalStateException" : before + more;
                Checks.call("append of " + more + " bytes to " + before,
                        () -> x.append(words[0], words[1], words[2], words[3], words[4]), due);
            }
        }

        PebbleProofs full = Checks.typed(" ".repeat(400));
        for (int one = 1; one < 256; one += one < 8 || one > 246 ? 1 : 7) {
            int low = one;
            Checks.state("append of a byte " + one + " to 400", () -> full.append(low, 0, 0, 0, 0));
            Checks.state("append of a byte " + one + " to 400", () -> full.append(0, low << 8, 0, 0, 0));
            Checks.state("append of a byte " + one + " to 400", () -> full.append(0, 0, low << 16, 0, 0));
            Checks.state("append of a byte " + one + " to 400", () -> full.append(0, 0, 0, low << 24, 0));
            Checks.state("append of a byte " + one + " to 400", () -> full.append(0, 0, 0, 0, low << 8 * (low % 4)));
        }
        Checks.due("the length stays", Checks.length(full), 400);

        Sentences.say("(nothing is appended then)");
        PebbleProofs x = Checks.typed("vertices 1" + " ".repeat(371));
        Checks.state("append of twenty to 381", () -> x.append(FOUR, FOUR, FOUR, FOUR, FOUR));
        Checks.due("the length stays", Checks.length(x), 381);
        Checks.due("the bytes stay", x.errorPosition(), -1);
        Checks.due("append of one", x.append(0x3B, 0, 0, 0, 0), 382);
        Checks.due("errorPosition()", x.errorPosition(), 382);
        Checks.due("append of eighteen", x.append(0x20202020, 0x20202020, 0x20202020, 0x20202020, 0x2020), 400);
        Checks.due("errorPosition()", x.errorPosition(), 400);
        Checks.state("append of one to 400", () -> x.append(0x61, 0, 0, 0, 0));
        Checks.due("append of zeros to 400", x.append(0, 0, 0, 0, 0), 400);
        Checks.due("no refusal", x.reason(), 0);
        Checks.due("no change", x.undoCount(), 0);
        Checks.due("truncate(10)", x.truncate(10), 10);
        Checks.due("load()", x.load(), 1);
    }

    private static void truncate() {
        Sentences.say("Shortens the input buffer.");
        PebbleProofs x = Checks.typed("vertices 12");
        Checks.due("errorPosition()", x.errorPosition(), 9);
        x.truncate(10);
        Checks.due("what was cut off does not count", x.errorPosition(), -1);
        x.append(0, 0, 0, 0, 0);
        Checks.due("what was cut off does not come back", x.errorPosition(), -1);
        x.append(0x3B, 0, 0, 0, 0);
        Checks.due("errorPosition() of \"vertices 1;\"", x.errorPosition(), 11);
        PebbleProofs y = Checks.typed("vertices 1;pile 0 1 2");
        y.truncate(19);
        Checks.due("load()", y.load(), 1);
        Checks.due("pebbles(0)", y.pebbles(0), 1);
        PebbleProofs words = Checks.typed("vertices 1;edge");
        words.truncate(8);
        Checks.due("errorPosition() of \"vertices\"", words.errorPosition(), 8);
        words.truncate(7);
        Checks.due("errorPosition() of \"vertice\"", words.errorPosition(), 0);

        Sentences.say("- `length`: the new length", "Returns the new length.");
        PebbleProofs z = Checks.typed("vertices 1;pile 0 1");
        Checks.due("truncate(19)", z.truncate(19), 19);
        Checks.due("truncate(18)", z.truncate(18), 18);
        Checks.due("truncate(1)", z.truncate(1), 1);
        Checks.due("truncate(0)", z.truncate(0), 0);
        Checks.due("truncate(0)", z.truncate(0), 0);
        Checks.due("length", Checks.length(z), 0);

        Sentences.say("Throws `IllegalArgumentException` if length is negative or greater than the present length");
        PebbleProofs full = Checks.typed("vertices 1" + " ".repeat(390));
        Checks.argument("truncate(401)", () -> full.truncate(401));
        Checks.due("truncate(400)", full.truncate(400), 400);
        Checks.due("truncate(10)", full.truncate(10), 10);
        for (int length : new int[] {-1, LEAST, -10, 11, 12, 400, 401, GREATEST}) {
            Checks.argument("truncate(" + length + ") of 10", () -> full.truncate(length));
        }
        Checks.due("the length stays", Checks.length(full), 10);
        Checks.due("the bytes stay", full.errorPosition(), -1);
        PebbleProofs none = new PebbleProofs();
        Checks.argument("truncate(1) of nothing", () -> none.truncate(1));
        Checks.argument("truncate(-1) of nothing", () -> none.truncate(-1));
        Checks.call("truncate(0) of nothing", () -> none.truncate(0), 0);
    }

    private static void errorPosition() {
        Sentences.say("Checks the input buffer as a setup text (section 7).");
        PebbleProofs x = Checks.typed("vertices 6;edge 0 1 2 3 4 5;pile 3 9;strategy 2 1 2 3");
        Checks.due("errorPosition()", x.errorPosition(), -1);
        Checks.due("the object stays", Checks.view(x), Checks.view(new PebbleProofs()));
        Checks.due("the buffer stays", Checks.length(x), 53);
        Checks.due("errorPosition() again", x.errorPosition(), -1);
        Checks.due("no change", x.undoCount(), 0);

        Sentences.say("Returns the error position; NONE if the text is valid.");
        Checks.due("NONE", PebbleProofs.NONE, -1);
        Checks.due("errorPosition() of nothing", new PebbleProofs().errorPosition(), 0);
        error("vertices 1", -1);
        error("vertices 7", 9);
        error("vertices 2", 10);
        error("vertices 1" + " ".repeat(390), -1);
        error("vertices 1;pile 0 " + " ".repeat(379) + "999", -1);
        Checks.due("pebbles(0)", Checks.made("vertices 1;pile 0 " + " ".repeat(379) + "999").pebbles(0), 999);
    }

    /** With moves, changes, a saved copy and a refusal behind it. */
    private static PebbleProofs used() {
        PebbleProofs x = Checks.made("vertices 4;edge 0 1 2 3;pile 0 9;strategy 1 0 1 3");
        x.move(0, 1);
        x.save();
        x.reach(3);
        x.addEdge(0, 3);
        Checks.state("move(2, 2)", () -> x.move(2, 2));
        return x;
    }

    private static void load() {
        Sentences.say("Replaces everything by the setup text in the input buffer: no moves, no undo history,"
                + " no saved copy, reason() is 0.");
        PebbleProofs x = used();
        Checks.type(x, "vertices 2;edge 0 1;pile 1 5");
        x.load();
        Checks.due("everything", Checks.view(x), "2 1 5 0 0 1 ; 0 near 0 1; 5 near 1 0");
        Checks.due("no moves", x.count(3), 0);
        Checks.due("no undo history", x.undoCount(), 0);
        Checks.state("undo()", () -> x.undo());
        Checks.state("no saved copy", () -> x.restore());
        Checks.due("reason() is 0", x.reason(), 0);
        x.put(0, 1);
        Checks.due("undo()", x.undo(), 0);
        Checks.due("pebbles(0)", x.pebbles(0), 0);
        Checks.due("save()", x.save(), 2);
        Checks.due("restore()", x.restore(), 2);

        Sentences.say("On success the input buffer becomes empty.");
        PebbleProofs y = Checks.typed("vertices 1");
        y.load();
        Checks.due("length", Checks.length(y), 0);
        Checks.due("errorPosition()", y.errorPosition(), 0);
        Checks.argument("load() of nothing", () -> y.load());
        Checks.due("append of one", y.append(0x61, 0, 0, 0, 0), 1);

        Sentences.say("Returns the number of vertices.");
        for (int n = 1; n <= 6; n++) {
            Checks.due("load()", Checks.typed(Checks.path(n)).load(), n);
        }

        Sentences.say("Throws `IllegalArgumentException` if the text is not valid (the input buffer is kept)");
        for (String text : new String[] {"", "vertices 7", "vertices 2", "vertices 1;", "vertices 1;pile 0 9;pile 1 1"}) {
            PebbleProofs z = used();
            Checks.type(z, text);
            Checks.argument("load() of \"" + text + "\"", () -> z.load());
            Checks.due("the buffer is kept", Checks.length(z), text.length());
            Checks.due("everything stays", Checks.view(z), Checks.view(used()));
            Checks.due("reason() stays", z.reason(), 4);
            Checks.due("undo()", z.undo(), 2);
            Checks.due("restore()", z.restore(), 4);
        }
        PebbleProofs kept = Checks.typed("vertices 1;");
        Checks.argument("load() of \"vertices 1;\"", () -> kept.load());
        kept.truncate(10);
        Checks.due("load() of what was kept", kept.load(), 1);
    }
}
