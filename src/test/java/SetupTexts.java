import java.util.ArrayList;
import java.util.Collections;
import java.util.List;
import java.util.Random;

/** Setup texts by chance, for the tests. */
final class SetupTexts {
    private SetupTexts() {
    }

    private static String space(Random random) {
        return random.nextInt(6) == 0 ? "  " : random.nextInt(4) == 0 ? " " : "";
    }

    private static String number(int value, Random random) {
        String digits = Integer.toString(value);
        while (digits.length() < 3 && random.nextInt(8) == 0) {
            digits = "0" + digits;
        }
        return digits;
    }

    private static int pebbles(Random random) {
        return random.nextInt(25) == 0 ? 990 + random.nextInt(10) : random.nextInt(20) == 0
                ? random.nextInt(200) : random.nextInt(6);
    }

    static String valid(Random random) {
        int n = random.nextInt(10) == 0 ? 1 : 2 + random.nextInt(5);
        List<String> statements = new ArrayList<>();
        boolean[][] edge = new boolean[n][n];
        List<Integer> order = new ArrayList<>();
        for (int v = 0; v < n; v++) {
            order.add(v);
        }
        Collections.shuffle(order, random);
        boolean path = random.nextInt(4) == 0;
        for (int i = 1; i < n; i++) {
            int v = order.get(i);
            int w = order.get(path ? i - 1 : random.nextInt(i));
            edge[v][w] = edge[w][v] = true;
            statements.add("edge " + number(v, random) + " " + number(w, random));
        }
        for (int more = random.nextInt(4) * random.nextInt(3); more > 0; more--) {
            int v = random.nextInt(n);
            int w = random.nextInt(n);
            if (v != w && !edge[v][w]) {
                edge[v][w] = edge[w][v] = true;
                statements.add("edge" + space(random) + number(v, random) + " " + number(w, random));
            }
        }
        for (int more = random.nextInt(2 * n); more > 0; more--) {
            statements.add("pile " + number(random.nextInt(n), random) + " " + number(pebbles(random), random));
        }
        for (int more = random.nextInt(3) * random.nextInt(3); more > 0; more--) {
            statements.add(strategy(n, random));
        }
        Collections.shuffle(statements, random);
        StringBuilder text = new StringBuilder(space(random) + "vertices " + n);
        for (String statement : statements) {
            text.append(space(random)).append(';').append(space(random)).append(statement);
        }
        return text.append(space(random)).toString();
    }

    private static String strategy(int n, Random random) {
        int target = random.nextInt(n);
        StringBuilder text = new StringBuilder("strategy " + target);
        for (int more = random.nextInt(4); more > 0; more--) {
            int v = random.nextInt(n);
            if (v != target) {
                text.append(' ').append(v).append(' ').append(random.nextInt(n)).append(' ')
                        .append(number(random.nextInt(4) == 0 ? random.nextInt(65) : 1 << random.nextInt(5), random));
            }
        }
        return text.toString();
    }

    /** A text with one to three small changes; most of them are not valid. */
    static String spoiled(String text, Random random) {
        StringBuilder all = new StringBuilder(text);
        String signs = " ;0123456789 9 6 ;;avestrg\n\tA:\u00ff\u0080/`{";
        for (int more = 1 + random.nextInt(3); more > 0; more--) {
            int at = random.nextInt(all.length() + 1);
            char sign = signs.charAt(random.nextInt(signs.length()));
            switch (random.nextInt(5)) {
                case 0 -> all.insert(at, sign);
                case 1 -> all.setLength(at);
                case 2 -> {
                    String[] words = {"edge 0 1", "pile 0 9", "strategy 0", "vertices 2", "vertices", "0", "12",
                        "1 0 65", "1 0 64", "1000", "0999", "999", "6", ";", "; ", "strategy 0 1 0 1;strategy 1"};
                    all.insert(at, " " + words[random.nextInt(words.length)] + " ");
                }
                case 3 -> {
                    if (at < all.length()) {
                        all.deleteCharAt(at);
                    }
                }
                default -> {
                    if (at < all.length()) {
                        all.setCharAt(at, sign);
                    }
                }
            }
            if (all.length() == 0) {
                break;
            }
        }
        return all.toString();
    }
}
