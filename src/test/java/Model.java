import java.util.ArrayDeque;
import java.util.ArrayList;
import java.util.Arrays;
import java.util.Deque;
import java.util.HashMap;
import java.util.HashSet;
import java.util.List;
import java.util.Map;
import java.util.NoSuchElementException;
import java.util.Set;

/**
 * The document told a second time, in the plainest way and with the Java library: a yardstick for
 * PebbleProofs in runs of many calls. It shares no way of working with it: piles are lists, and what
 * can be reached is tried out move by move.
 */
final class Model {
    static final int NONE = -1;

    private static final class Strategy {
        int target;
        int[] weight = new int[6];
        int[] parent = {NONE, NONE, NONE, NONE, NONE, NONE};

        Strategy copy() {
            Strategy s = new Strategy();
            s.target = target;
            s.weight = weight.clone();
            s.parent = parent.clone();
            return s;
        }
    }

    private static final class State {
        int n;
        boolean[][] edge = new boolean[6][6];
        List<Integer> pile = new ArrayList<>();
        int moves;
        List<Strategy> strategies = new ArrayList<>();

        State(int n) {
            this.n = n;
            for (int v = 0; v < n; v++) {
                pile.add(0);
            }
        }

        State copy() {
            State s = new State(n);
            for (int v = 0; v < 6; v++) {
                s.edge[v] = edge[v].clone();
            }
            s.pile = new ArrayList<>(pile);
            s.moves = moves;
            for (Strategy one : strategies) {
                s.strategies.add(one.copy());
            }
            return s;
        }
    }

    private State now;
    private State saved;
    private final Deque<State> history = new ArrayDeque<>();
    private final StringBuilder buffer = new StringBuilder();
    private int why;

    Model() {
        now = new State(3);
        now.edge[0][1] = now.edge[1][0] = now.edge[1][2] = now.edge[2][1] = true;
        now.pile.set(0, 4);
    }

    private void remember() {
        history.addLast(now.copy());
        if (history.size() > 10) {
            history.removeFirst();
        }
    }

    private void vertex(int... vertices) {
        for (int v : vertices) {
            if (v < 0 || v >= now.n) {
                throw new IndexOutOfBoundsException();
            }
        }
    }

    private void refuse(int reason) {
        why = reason;
        throw new IllegalStateException();
    }

    private Strategy get(int strategy) {
        if (strategy < 0 || strategy >= now.strategies.size()) {
            throw new IndexOutOfBoundsException();
        }
        return now.strategies.get(strategy);
    }

    private static void need(boolean holds) {
        if (!holds) {
            throw new IllegalArgumentException();
        }
    }

    // ---- Input

    public int append(int a, int b, int c, int d, int e) {
        StringBuilder more = new StringBuilder();
        for (int word : new int[] {a, b, c, d, e}) {
            for (int k = 3; k >= 0; k--) {
                char one = (char) (word >>> 8 * k & 0xff);
                if (one != 0) {
                    more.append(one);
                }
            }
        }
        if (buffer.length() + more.length() > 400) {
            throw new IllegalStateException();
        }
        buffer.append(more);
        return buffer.length();
    }

    public int truncate(int length) {
        need(length >= 0 && length <= buffer.length());
        buffer.setLength(length);
        return length;
    }

    private record Token(int start, String text) {
        boolean inRange(int low, int high) {
            if (!text.matches("[0-9]{1,3}")) {
                return false;
            }
            int value = Integer.parseInt(text);
            return value >= low && value <= high;
        }

        int value() {
            return Integer.parseInt(text);
        }
    }

    private static List<Token> tokens(String text) {
        List<Token> all = new ArrayList<>();
        int at = 0;
        while (at < text.length()) {
            if (text.charAt(at) == ' ') {
                at++;
                continue;
            }
            int end = at + 1;
            for (String kind : new String[] {"[a-z]", "[0-9]"}) {
                if (text.substring(at, at + 1).matches(kind)) {
                    while (end < text.length() && text.substring(end, end + 1).matches(kind)) {
                        end++;
                    }
                }
            }
            all.add(new Token(at, text.substring(at, end)));
            at = end;
        }
        all.add(new Token(text.length(), ""));
        return all;
    }

    /** The state that a text tells, or the error position. */
    private static Object read(String text) {
        List<Token> all = tokens(text);
        State s = new State(1);
        // The numbers of the statement that is being read, and its word.
        List<Integer> numbers = new ArrayList<>();
        String word = "";
        boolean first = true;
        for (Token t : all) {
            boolean last = t.text.isEmpty();
            if (word.isEmpty()) {
                boolean fits = first ? t.text.equals("vertices")
                        : Arrays.asList("edge", "pile", "strategy").contains(t.text);
                if (!fits || t.text.equals("strategy") && s.strategies.size() == 6) {
                    return t.start;
                }
                word = t.text;
                numbers.clear();
                continue;
            }
            int k = numbers.size();
            if (last || t.text.equals(";")) {
                boolean complete = word.equals("vertices") ? k == 1 : word.equals("pile") ? k == 2
                        : word.equals("edge") ? k >= 2 : k % 3 == 1;
                if (!complete || last && !connected(s.n, s.edge)) {
                    return t.start;
                }
                word = "";
                first = false;
                continue;
            }
            int low = 0;
            int high = s.n - 1;
            if (word.equals("vertices")) {
                low = 1;
                high = 6;
                if (k == 1) {
                    return t.start;
                }
            } else if (word.equals("pile")) {
                high = k == 0 ? high : 999;
                if (k == 2) {
                    return t.start;
                }
            } else if (word.equals("strategy")) {
                high = k > 0 && k % 3 == 0 ? 64 : high;
            }
            if (!t.inRange(low, high)) {
                return t.start;
            }
            int value = t.value();
            numbers.add(value);
            if (word.equals("vertices")) {
                s = new State(value);
            } else if (word.equals("pile") && k == 1) {
                s.pile.set(numbers.get(0), value);
            } else if (word.equals("edge") && k > 0) {
                int before = numbers.get(k - 1);
                if (before == value || s.edge[before][value]) {
                    return t.start;
                }
                s.edge[before][value] = s.edge[value][before] = true;
            } else if (word.equals("strategy") && k == 0) {
                s.strategies.add(new Strategy());
                s.strategies.get(s.strategies.size() - 1).target = value;
            } else if (word.equals("strategy")) {
                Strategy one = s.strategies.get(s.strategies.size() - 1);
                if (k % 3 == 1 && value == one.target) {
                    return t.start;
                }
                if (k % 3 == 0) {
                    one.parent[numbers.get(k - 2)] = numbers.get(k - 1);
                    one.weight[numbers.get(k - 2)] = value;
                }
            }
        }
        return s;
    }

    public int errorPosition() {
        return read(buffer.toString()) instanceof Integer position ? position : NONE;
    }

    public int load() {
        if (!(read(buffer.toString()) instanceof State s)) {
            throw new IllegalArgumentException();
        }
        now = s;
        saved = null;
        history.clear();
        why = 0;
        buffer.setLength(0);
        return now.n;
    }

    // ---- Changes

    private int edges() {
        int found = 0;
        for (int v = 0; v < now.n; v++) {
            for (int w = v + 1; w < now.n; w++) {
                found += now.edge[v][w] ? 1 : 0;
            }
        }
        return found;
    }

    private static int[][] distances(int n, boolean[][] edge) {
        int[][] d = new int[n][n];
        for (int v = 0; v < n; v++) {
            for (int w = 0; w < n; w++) {
                d[v][w] = v == w ? 0 : edge[v][w] ? 1 : 100;
            }
        }
        for (int u = 0; u < n; u++) {
            for (int v = 0; v < n; v++) {
                for (int w = 0; w < n; w++) {
                    d[v][w] = Math.min(d[v][w], d[v][u] + d[u][w]);
                }
            }
        }
        return d;
    }

    private static boolean connected(int n, boolean[][] edge) {
        return Arrays.stream(distances(n, edge)[0]).max().orElse(0) < 100;
    }

    private int[][] distances() {
        return distances(now.n, now.edge);
    }

    public int addEdge(int v, int w) {
        vertex(v, w);
        need(v != w);
        if (now.edge[v][w]) {
            refuse(1);
        }
        remember();
        now.edge[v][w] = now.edge[w][v] = true;
        return edges();
    }

    public int removeEdge(int v, int w) {
        vertex(v, w);
        need(v != w);
        if (!now.edge[v][w]) {
            refuse(2);
        }
        State without = now.copy();
        without.edge[v][w] = without.edge[w][v] = false;
        if (!connected(without.n, without.edge)) {
            refuse(3);
        }
        remember();
        now = without;
        return edges();
    }

    public int put(int v, int pebbles) {
        vertex(v);
        need(pebbles >= 1 && pebbles <= 99 && now.pile.get(v) + pebbles <= 999);
        remember();
        now.pile.set(v, now.pile.get(v) + pebbles);
        return now.pile.get(v);
    }

    public int take(int v, int pebbles) {
        vertex(v);
        need(pebbles >= 1 && pebbles <= 99);
        if (pebbles > now.pile.get(v)) {
            refuse(5);
        }
        remember();
        now.pile.set(v, now.pile.get(v) - pebbles);
        return now.pile.get(v);
    }

    private static List<Integer> after(List<Integer> pile, int v, int w) {
        List<Integer> result = new ArrayList<>(pile);
        result.set(v, pile.get(v) - 2);
        result.set(w, pile.get(w) + 1);
        return result;
    }

    private boolean allowed(List<Integer> pile, int v, int w) {
        return now.edge[v][w] && pile.get(v) >= 2 && pile.get(w) < 999;
    }

    public int move(int v, int w) {
        vertex(v, w);
        if (!now.edge[v][w]) {
            refuse(4);
        }
        if (now.pile.get(v) < 2) {
            refuse(5);
        }
        if (now.pile.get(w) == 999) {
            refuse(6);
        }
        remember();
        now.pile = after(now.pile, v, w);
        now.moves++;
        return now.pile.get(w);
    }

    public int reach(int target) {
        vertex(target);
        if (!isReachable(target)) {
            refuse(6);
        }
        remember();
        int made = 0;
        while (now.pile.get(target) == 0) {
            int move = next(target);
            now.pile = after(now.pile, move / 10, move % 10);
            now.moves++;
            made++;
        }
        return made;
    }

    public int addStrategy(int target) {
        vertex(target);
        if (now.strategies.size() == 6) {
            refuse(7);
        }
        remember();
        Strategy s = new Strategy();
        s.target = target;
        now.strategies.add(s);
        return now.strategies.size() - 1;
    }

    public int weigh(int strategy, int v, int parent, int weight) {
        Strategy s = get(strategy);
        vertex(v, parent);
        need(weight >= 0 && weight <= 64 && v != s.target);
        remember();
        int before = s.weight[v];
        s.weight[v] = weight;
        s.parent[v] = parent;
        return before;
    }

    public int dropStrategy(int strategy) {
        get(strategy);
        remember();
        now.strategies.remove(strategy);
        return now.strategies.size();
    }

    // ---- History

    public int undo() {
        if (history.isEmpty()) {
            throw new IllegalStateException();
        }
        now = history.removeLast();
        return history.size();
    }

    public int undoCount() {
        return history.size();
    }

    public int save() {
        saved = now.copy();
        return now.n;
    }

    public int restore() {
        if (saved == null) {
            throw new IllegalStateException();
        }
        now = saved.copy();
        history.clear();
        return now.n;
    }

    public int reason() {
        return why;
    }

    // ---- Graph and pebbles

    private int total() {
        return now.pile.stream().mapToInt(Integer::intValue).sum();
    }

    public int count(int what) {
        need(what >= 0 && what <= 5);
        int diameter = Arrays.stream(distances()).flatMapToInt(Arrays::stream).max().orElse(0);
        return new int[] {now.n, edges(), total(), now.moves, now.strategies.size(), diameter}[what];
    }

    public boolean isEdge(int v, int w) {
        vertex(v, w);
        return now.edge[v][w];
    }

    public int distance(int v, int w) {
        vertex(v, w);
        return distances()[v][w];
    }

    public int farthest(int v) {
        vertex(v);
        int[] d = distances()[v];
        int found = now.n - 1;
        for (int w = now.n - 1; w >= 0; w--) {
            found = d[w] >= d[found] ? w : found;
        }
        return found;
    }

    public int pebbles(int v) {
        vertex(v);
        return now.pile.get(v);
    }

    public int moves(int v) {
        vertex(v);
        int found = 0;
        for (int w = 0; w < now.n; w++) {
            found += allowed(now.pile, v, w) ? 1 : 0;
        }
        return found;
    }

    // ---- Targets

    private final Map<String, Map<List<Integer>, Boolean>> known = new HashMap<>();

    private Map<List<Integer>, Boolean> knownOf(int target) {
        String key = now.n + Arrays.deepToString(now.edge) + target;
        return known.computeIfAbsent(key, k -> new HashMap<>());
    }

    private boolean tried(List<Integer> pile, int target, int[] d, Map<List<Integer>, Boolean> memo) {
        if (pile.get(target) > 0) {
            return true;
        }
        int sum = pile.stream().mapToInt(Integer::intValue).sum();
        for (int v = 0; sum > 16 && v < now.n; v++) {
            if (pile.get(v) >= 1 << d[v]) {
                return true;
            }
        }
        Boolean before = memo.get(pile);
        if (before != null) {
            return before;
        }
        boolean found = false;
        for (int v = 0; v < now.n && !found; v++) {
            for (int w = 0; w < now.n && !found; w++) {
                found = allowed(pile, v, w) && tried(after(pile, v, w), target, d, memo);
            }
        }
        memo.put(pile, found);
        return found;
    }

    private boolean reaches(List<Integer> pile, int target) {
        return tried(pile, target, distances()[target], knownOf(target));
    }

    public boolean isReachable(int target) {
        vertex(target);
        return reaches(now.pile, target);
    }

    public int reachable() {
        int set = 0;
        for (int v = 0; v < now.n; v++) {
            set += isReachable(v) ? 1 << v : 0;
        }
        return set;
    }

    public int next(int target) {
        vertex(target);
        for (int v = 0; v < now.n && now.pile.get(target) == 0; v++) {
            for (int w = 0; w < now.n; w++) {
                if (allowed(now.pile, v, w) && reaches(after(now.pile, v, w), target)) {
                    return 10 * v + w;
                }
            }
        }
        throw new NoSuchElementException();
    }

    /** All piles that can come of the present one: after no move, after one, and so on. */
    private List<Set<List<Integer>>> rounds() {
        if (total() > 14) {
            throw new UnsupportedOperationException();
        }
        List<Set<List<Integer>>> all = new ArrayList<>();
        Set<List<Integer>> round = new HashSet<>();
        round.add(now.pile);
        while (!round.isEmpty()) {
            all.add(round);
            Set<List<Integer>> then = new HashSet<>();
            for (List<Integer> pile : round) {
                for (int v = 0; v < now.n; v++) {
                    for (int w = 0; w < now.n; w++) {
                        if (allowed(pile, v, w)) {
                            then.add(after(pile, v, w));
                        }
                    }
                }
            }
            round = then;
        }
        return all;
    }

    public int fewest(int target) {
        vertex(target);
        List<Set<List<Integer>>> all = rounds();
        for (int k = 0; k < all.size(); k++) {
            if (all.get(k).stream().anyMatch(pile -> pile.get(target) > 0)) {
                return k;
            }
        }
        throw new NoSuchElementException();
    }

    public int ahead() {
        return total() > 14 ? NONE : rounds().stream().mapToInt(Set::size).sum();
    }

    // ---- Worst piles

    private final Map<String, List<List<List<Integer>>>> failures = new HashMap<>();

    /** The piles that do not reach a target, by their number of pebbles, each list in order. */
    private List<List<List<Integer>>> failing(int target) {
        String key = now.n + Arrays.deepToString(now.edge) + target;
        return failures.computeIfAbsent(key, k -> {
            List<List<List<Integer>>> all = new ArrayList<>();
            for (int i = 0; i < 100; i++) {
                all.add(new ArrayList<>());
            }
            gather(new ArrayList<>(), target, distances()[target], all);
            return all;
        });
    }

    private void gather(List<Integer> begun, int target, int[] d, List<List<List<Integer>>> all) {
        if (begun.size() == now.n) {
            if (!reaches(begun, target)) {
                all.get(begun.stream().mapToInt(Integer::intValue).sum()).add(begun);
            }
            return;
        }
        for (int k = 0; k < 1 << d[begun.size()]; k++) {
            List<Integer> more = new ArrayList<>(begun);
            more.add(k);
            gather(more, target, d, all);
        }
    }

    private List<List<Integer>> worstOf(int target) {
        List<List<Integer>> last = List.of();
        for (List<List<Integer>> some : failing(target)) {
            last = some.isEmpty() ? last : some;
        }
        return last;
    }

    public int number(int target) {
        vertex(target);
        return worstOf(target).get(0).stream().mapToInt(Integer::intValue).sum() + 1;
    }

    public int graphNumber() {
        int greatest = 0;
        for (int v = 0; v < now.n; v++) {
            greatest = Math.max(greatest, number(v));
        }
        return greatest;
    }

    public int worst(int target, int v) {
        vertex(target, v);
        return worstOf(target).get(0).get(v);
    }

    public int worstPiles(int target) {
        vertex(target);
        return worstOf(target).size();
    }

    public int failing(int target, int pebbles) {
        vertex(target);
        need(pebbles >= 0 && pebbles <= 99);
        return failing(target).get(pebbles).size();
    }

    private int height(int v, int from) {
        int greatest = 0;
        for (int w = 0; w < now.n; w++) {
            if (w != from && now.edge[v][w]) {
                greatest = Math.max(greatest, 1 + height(w, v));
            }
        }
        return greatest;
    }

    /** The sum of 2 to the power of its length, less 1, over the paths below a vertex. */
    private int paths(int v, int from, int above) {
        int longest = NONE;
        int sum = 0;
        for (int w = 0; w < now.n; w++) {
            if (w != from && now.edge[v][w]) {
                longest = longest == NONE || height(w, v) > height(longest, v) ? w : longest;
            }
        }
        for (int w = 0; w < now.n; w++) {
            if (w != from && now.edge[v][w]) {
                sum += paths(w, v, w == longest ? above + 1 : 1);
            }
        }
        return longest == NONE ? (1 << above) - 1 : sum;
    }

    public int treeNumber(int target) {
        vertex(target);
        if (edges() != now.n - 1) {
            throw new UnsupportedOperationException();
        }
        return paths(target, NONE, 0) + 1;
    }

    // ---- Strategies

    public int strategy(int strategy, int v, int what) {
        Strategy s = get(strategy);
        vertex(v);
        need(what >= 0 && what <= 2);
        return what == 0 ? s.target : what == 1 ? s.weight[v] : s.parent[v];
    }

    private int fault(Strategy s) {
        for (int v = 0; v < now.n; v++) {
            int parent = s.parent[v];
            if (s.weight[v] > 0 && !(parent != NONE && now.edge[v][parent]
                    && (parent == s.target || s.weight[parent] >= 2 * s.weight[v]))) {
                return v;
            }
        }
        return NONE;
    }

    public int wrong(int strategy) {
        return fault(get(strategy));
    }

    public int weight(int strategy, boolean pebbles) {
        Strategy s = get(strategy);
        int sum = 0;
        for (int v = 0; v < now.n; v++) {
            sum += s.weight[v] * (pebbles ? now.pile.get(v) : 1);
        }
        return sum;
    }

    public boolean proves(int strategy) {
        return wrong(strategy) == NONE && weight(strategy, true) > weight(strategy, false);
    }

    public int bound(int target) {
        vertex(target);
        if (now.n == 1) {
            return 1;
        }
        int[] sums = new int[now.n];
        for (Strategy s : now.strategies) {
            if (s.target == target && fault(s) == NONE) {
                for (int v = 0; v < now.n; v++) {
                    sums[v] += s.weight[v];
                }
            }
        }
        sums[target] = 1000;
        int least = Arrays.stream(sums).min().orElse(0);
        if (least == 0) {
            throw new NoSuchElementException();
        }
        return (Arrays.stream(sums).sum() - 1000) / least + 1;
    }

    // ---- Covers

    public int stack(int v) {
        vertex(v);
        return Arrays.stream(distances()[v]).map(d -> 1 << d).sum();
    }

    public int coverNumber() {
        int greatest = 0;
        for (int v = 0; v < now.n; v++) {
            greatest = Math.max(greatest, stack(v));
        }
        return greatest;
    }

    public boolean canCover() {
        return lacking() == 0;
    }

    public int lacking() {
        int least = now.n;
        for (Set<List<Integer>> round : rounds()) {
            for (List<Integer> pile : round) {
                least = Math.min(least, (int) pile.stream().filter(k -> k == 0).count());
            }
        }
        return least;
    }
}
