import java.util.Arrays;
import java.util.NoSuchElementException;

/**
 * Pebbles on the vertices of a graph: which targets moves can reach, the piles that are just not
 * enough, proofs by weights, and covers of all vertices.
 */
public final class PebbleProofs {
    public static final int NONE = -1;

    private static final int MOST_VERTICES = 6;
    private static final int MOST_PEBBLES = 999;
    private static final int MOST_AT_ONCE = 99;
    private static final int MOST_STRATEGIES = 6;
    private static final int MOST_WEIGHT = 64;
    private static final int MOST_CHANGES = 10;
    private static final int MOST_BYTES = 400;
    private static final int MOST_EXPLORED = 14;
    private static final int PAIRS = 36;

    private static final int EDGE_EXISTS = 1;
    private static final int NO_SUCH_EDGE = 2;
    private static final int NOT_CONNECTED = 3;
    private static final int NO_NEIGHBOURS = 4;
    private static final int TOO_FEW_PEBBLES = 5;
    private static final int FULL_OR_OUT_OF_REACH = 6;
    private static final int TOO_MANY_STRATEGIES = 7;

    private final Board board;
    private final Board savedBoard;
    private boolean hasSaved;
    private final History history;
    private final SetupText input;
    private final Outlook outlook;
    private final FailingPiles[] failingPiles;
    private final int[] workRow;
    private int refusal;

    public PebbleProofs() {
        board = new Board();
        savedBoard = new Board();
        history = new History();
        input = new SetupText();
        outlook = new Outlook();
        failingPiles = new FailingPiles[MOST_VERTICES];
        workRow = new int[FailingPiles.MOST_PILES];
        board.begin(3);
        board.join(0, 1);
        board.join(1, 2);
        board.measure();
        board.pile[0] = 4;
    }

    // ---- Input

    public int append(int a, int b, int c, int d, int e) throws IllegalStateException {
        int added = SetupText.bytesIn(a) + SetupText.bytesIn(b) + SetupText.bytesIn(c)
                + SetupText.bytesIn(d) + SetupText.bytesIn(e);
        if (input.length + added > MOST_BYTES) {
            throw new IllegalStateException("the input buffer is full");
        }
        input.addBytes(a);
        input.addBytes(b);
        input.addBytes(c);
        input.addBytes(d);
        input.addBytes(e);
        return input.length;
    }

    public int truncate(int length) throws IllegalArgumentException {
        if (length < 0 || length > input.length) {
            throw new IllegalArgumentException("no such length");
        }
        input.length = length;
        return length;
    }

    public int errorPosition() {
        return input.check();
    }

    public int load() throws IllegalArgumentException {
        if (input.check() != NONE) {
            throw new IllegalArgumentException("the setup text is not valid");
        }
        board.copyFrom(input.draft);
        board.measure();
        history.forget();
        hasSaved = false;
        refusal = 0;
        input.length = 0;
        return board.vertices;
    }

    // ---- Changes

    public int addEdge(int vertex, int other)
            throws IndexOutOfBoundsException, IllegalArgumentException, IllegalStateException {
        needTwoVertices(vertex, other);
        if (board.joins(vertex, other)) {
            refuse(EDGE_EXISTS);
        }
        history.keep(board);
        board.join(vertex, other);
        board.measure();
        return board.edgeCount();
    }

    public int removeEdge(int vertex, int other)
            throws IndexOutOfBoundsException, IllegalArgumentException, IllegalStateException {
        needTwoVertices(vertex, other);
        if (!board.joins(vertex, other)) {
            refuse(NO_SUCH_EDGE);
        }
        if (!board.isConnectedWithout(vertex, other)) {
            refuse(NOT_CONNECTED);
        }
        history.keep(board);
        board.part(vertex, other);
        board.measure();
        return board.edgeCount();
    }

    public int put(int vertex, int pebbles)
            throws IndexOutOfBoundsException, IllegalArgumentException {
        needVertex(vertex);
        if (pebbles < 1 || pebbles > MOST_AT_ONCE || board.pile[vertex] + pebbles > MOST_PEBBLES) {
            throw new IllegalArgumentException("not so many pebbles");
        }
        history.keep(board);
        board.pile[vertex] += pebbles;
        return board.pile[vertex];
    }

    public int take(int vertex, int pebbles)
            throws IndexOutOfBoundsException, IllegalArgumentException, IllegalStateException {
        needVertex(vertex);
        if (pebbles < 1 || pebbles > MOST_AT_ONCE) {
            throw new IllegalArgumentException("not so many pebbles");
        }
        if (board.pile[vertex] < pebbles) {
            refuse(TOO_FEW_PEBBLES);
        }
        history.keep(board);
        board.pile[vertex] -= pebbles;
        return board.pile[vertex];
    }

    public int move(int vertex, int other) throws IndexOutOfBoundsException, IllegalStateException {
        needVertex(vertex);
        needVertex(other);
        if (!board.joins(vertex, other)) {
            refuse(NO_NEIGHBOURS);
        }
        if (board.pile[vertex] < 2) {
            refuse(TOO_FEW_PEBBLES);
        }
        if (board.pile[other] >= MOST_PEBBLES) {
            refuse(FULL_OR_OUT_OF_REACH);
        }
        history.keep(board);
        board.makeMove(vertex, other);
        return board.pile[other];
    }

    public int reach(int target) throws IndexOutOfBoundsException, IllegalStateException {
        needVertex(target);
        FailingPiles piles = failingPilesOf(target);
        if (piles.holds(board.pile)) {
            refuse(FULL_OR_OUT_OF_REACH);
        }
        history.keep(board);
        int made = 0;
        // Each move loses a pebble, so there are fewer moves than pebbles on a full graph.
        while (board.pile[target] == 0 && made < MOST_VERTICES * MOST_PEBBLES) {
            int step = firstMove(piles);
            if (step == NONE) {
                break;
            }
            board.makeMove(step / 10, step % 10);
            made++;
        }
        return made;
    }

    public int addStrategy(int target) throws IndexOutOfBoundsException, IllegalStateException {
        needVertex(target);
        if (board.strategyCount >= MOST_STRATEGIES) {
            refuse(TOO_MANY_STRATEGIES);
        }
        history.keep(board);
        board.openStrategy(target);
        return board.strategyCount - 1;
    }

    public int weigh(int strategy, int vertex, int parent, int weight)
            throws IndexOutOfBoundsException, IllegalArgumentException {
        needStrategy(strategy);
        needVertex(vertex);
        needVertex(parent);
        if (weight < 0 || weight > MOST_WEIGHT || vertex == board.targets[strategy]) {
            throw new IllegalArgumentException("no such weight, or the target");
        }
        history.keep(board);
        int previous = board.weightOf(strategy, vertex);
        board.setWeight(strategy, vertex, parent, weight);
        return previous;
    }

    public int dropStrategy(int strategy) throws IndexOutOfBoundsException {
        needStrategy(strategy);
        history.keep(board);
        board.closeStrategy(strategy);
        return board.strategyCount;
    }

    // ---- History

    public int undo() throws IllegalStateException {
        if (history.size == 0) {
            throw new IllegalStateException("there is no change to undo");
        }
        history.bringBack(board);
        return history.size;
    }

    public int undoCount() {
        return history.size;
    }

    public int save() {
        savedBoard.copyFrom(board);
        hasSaved = true;
        return board.vertices;
    }

    public int restore() throws IllegalStateException {
        if (!hasSaved) {
            throw new IllegalStateException("there is no saved copy");
        }
        board.copyFrom(savedBoard);
        history.forget();
        return board.vertices;
    }

    public int reason() {
        return refusal;
    }

    // ---- Graph and pebbles

    public int count(int what) throws IllegalArgumentException {
        switch (what) {
            case 0:
                return board.vertices;
            case 1:
                return board.edgeCount();
            case 2:
                return board.allPebbles();
            case 3:
                return board.moveCount;
            case 4:
                return board.strategyCount;
            case 5:
                return board.diameter();
            default:
                throw new IllegalArgumentException("no such number");
        }
    }

    public boolean isEdge(int vertex, int other) throws IndexOutOfBoundsException {
        needVertex(vertex);
        needVertex(other);
        return board.joins(vertex, other);
    }

    public int distance(int vertex, int other) throws IndexOutOfBoundsException {
        needVertex(vertex);
        needVertex(other);
        return board.apart(vertex, other);
    }

    public int farthest(int vertex) throws IndexOutOfBoundsException {
        needVertex(vertex);
        return board.farthestFrom(1 << vertex);
    }

    public int pebbles(int vertex) throws IndexOutOfBoundsException {
        needVertex(vertex);
        return board.pile[vertex];
    }

    public int moves(int vertex) throws IndexOutOfBoundsException {
        needVertex(vertex);
        int possible = 0;
        for (int other = 0; other < board.vertices; other++) {
            if (board.allowsMove(vertex, other)) {
                possible++;
            }
        }
        return possible;
    }

    // ---- Targets

    public boolean isReachable(int target) throws IndexOutOfBoundsException {
        needVertex(target);
        return !failingPilesOf(target).holds(board.pile);
    }

    public int reachable() {
        int set = 0;
        for (int target = 0; target < board.vertices; target++) {
            if (!failingPilesOf(target).holds(board.pile)) {
                set |= 1 << target;
            }
        }
        return set;
    }

    public int next(int target) throws IndexOutOfBoundsException, NoSuchElementException {
        needVertex(target);
        FailingPiles piles = failingPilesOf(target);
        if (board.pile[target] > 0 || piles.holds(board.pile)) {
            throw new NoSuchElementException("there is no first move");
        }
        return firstMove(piles);
    }

    public int fewest(int target)
            throws IndexOutOfBoundsException, UnsupportedOperationException, NoSuchElementException {
        needVertex(target);
        needFewPebbles();
        outlook.fit(board);
        int moves = outlook.fewestMoves[target];
        if (moves == NONE) {
            throw new NoSuchElementException("the target cannot be reached");
        }
        return moves;
    }

    public int ahead() {
        if (board.allPebbles() > MOST_EXPLORED) {
            return NONE;
        }
        outlook.fit(board);
        return outlook.pileCount;
    }

    // ---- Worst piles

    public int number(int target) throws IndexOutOfBoundsException {
        needVertex(target);
        return failingPilesOf(target).leastNumber;
    }

    public int graphNumber() {
        int greatest = 0;
        for (int target = 0; target < board.vertices; target++) {
            greatest = Math.max(greatest, failingPilesOf(target).leastNumber);
        }
        return greatest;
    }

    public int worst(int target, int vertex) throws IndexOutOfBoundsException {
        needVertex(target);
        needVertex(vertex);
        FailingPiles piles = failingPilesOf(target);
        return piles.pebblesOn(piles.firstWorst, vertex);
    }

    public int worstPiles(int target) throws IndexOutOfBoundsException {
        needVertex(target);
        return failingPilesOf(target).worstCount;
    }

    public int failing(int target, int pebbles)
            throws IndexOutOfBoundsException, IllegalArgumentException {
        needVertex(target);
        if (pebbles < 0 || pebbles > MOST_AT_ONCE) {
            throw new IllegalArgumentException("not so many pebbles");
        }
        return failingPilesOf(target).howMany[pebbles];
    }

    public int treeNumber(int target)
            throws IndexOutOfBoundsException, UnsupportedOperationException {
        needVertex(target);
        if (board.edgeCount() != board.vertices - 1) {
            throw new UnsupportedOperationException("the graph is not a tree");
        }
        return board.numberByPaths(target);
    }

    // ---- Strategies

    public int strategy(int strategy, int vertex, int what)
            throws IndexOutOfBoundsException, IllegalArgumentException {
        needStrategy(strategy);
        needVertex(vertex);
        switch (what) {
            case 0:
                return board.targets[strategy];
            case 1:
                return board.weightOf(strategy, vertex);
            case 2:
                return board.parentOf(strategy, vertex);
            default:
                throw new IllegalArgumentException("no such part");
        }
    }

    public int wrong(int strategy) throws IndexOutOfBoundsException {
        needStrategy(strategy);
        return board.firstFault(strategy);
    }

    public int weight(int strategy, boolean pebbles) throws IndexOutOfBoundsException {
        needStrategy(strategy);
        return pebbles ? board.weightOfPile(strategy) : board.weightOfAll(strategy);
    }

    public boolean proves(int strategy) throws IndexOutOfBoundsException {
        needStrategy(strategy);
        return board.firstFault(strategy) == NONE
                && board.weightOfPile(strategy) > board.weightOfAll(strategy);
    }

    public int bound(int target) throws IndexOutOfBoundsException, NoSuchElementException {
        needVertex(target);
        int valid = board.validStrategies(target);
        int least = board.vertices == 1 ? 1 : MOST_STRATEGIES * MOST_WEIGHT;
        int all = 0;
        for (int vertex = 0; vertex < board.vertices; vertex++) {
            if (vertex != target) {
                int sum = board.weightIn(valid, vertex);
                least = Math.min(least, sum);
                all += sum;
            }
        }
        if (least <= 0) {
            throw new NoSuchElementException("a vertex has no weight");
        }
        return all / least + 1;
    }

    // ---- Covers

    public int stack(int vertex) throws IndexOutOfBoundsException {
        needVertex(vertex);
        return board.stackFor(vertex);
    }

    public int coverNumber() {
        int greatest = 0;
        for (int vertex = 0; vertex < board.vertices; vertex++) {
            greatest = Math.max(greatest, board.stackFor(vertex));
        }
        return greatest;
    }

    public boolean canCover() throws UnsupportedOperationException {
        needFewPebbles();
        outlook.fit(board);
        return outlook.fewestEmpty == 0;
    }

    public int lacking() throws UnsupportedOperationException {
        needFewPebbles();
        outlook.fit(board);
        return outlook.fewestEmpty;
    }

    // ---- What the methods share

    private void needVertex(int vertex) throws IndexOutOfBoundsException {
        if (vertex < 0 || vertex >= board.vertices) {
            throw new IndexOutOfBoundsException("no such vertex");
        }
    }

    private void needTwoVertices(int vertex, int other)
            throws IndexOutOfBoundsException, IllegalArgumentException {
        needVertex(vertex);
        needVertex(other);
        if (vertex == other) {
            throw new IllegalArgumentException("both are the same vertex");
        }
    }

    private void needStrategy(int strategy) throws IndexOutOfBoundsException {
        if (strategy < 0 || strategy >= board.strategyCount) {
            throw new IndexOutOfBoundsException("no such strategy");
        }
    }

    private void needFewPebbles() throws UnsupportedOperationException {
        if (board.allPebbles() > MOST_EXPLORED) {
            throw new UnsupportedOperationException("too many pebbles");
        }
    }

    private void refuse(int why) throws IllegalStateException {
        refusal = why;
        throw new IllegalStateException("the change is refused");
    }

    private FailingPiles failingPilesOf(int target) {
        FailingPiles piles = failingPiles[target];
        if (piles == null) {
            piles = new FailingPiles(target);
            failingPiles[target] = piles;
        }
        if (!piles.areOf(board)) {
            piles.collect(board, workRow);
        }
        return piles;
    }

    /** The first move after which a target can still be reached, NONE if there is none. */
    private int firstMove(FailingPiles piles) {
        for (int vertex = 0; vertex < board.vertices; vertex++) {
            for (int other = 0; other < board.vertices; other++) {
                if (board.allowsMove(vertex, other) && !failsAfter(vertex, other, piles)) {
                    return 10 * vertex + other;
                }
            }
        }
        return NONE;
    }

    private boolean failsAfter(int vertex, int other, FailingPiles piles) {
        board.pile[vertex] -= 2;
        board.pile[other]++;
        boolean answer = piles.holds(board.pile);
        board.pile[vertex] += 2;
        board.pile[other]--;
        return answer;
    }

    /** All that undo() and restore() bring back: graph, pile, moves and strategies. */
    private static final class Board {
        int vertices;
        // An edge is told by two bits, 6 * v + w and 6 * w + v.
        long edges;
        int moveCount;
        int strategyCount;
        final int[] pile = new int[MOST_VERTICES];
        final int[] distances = new int[PAIRS];
        final int[] targets = new int[MOST_STRATEGIES];
        final int[] weights = new int[PAIRS];
        final int[] parents = new int[PAIRS];

        void begin(int howManyVertices) {
            vertices = howManyVertices;
            edges = 0L;
            moveCount = 0;
            strategyCount = 0;
            Arrays.fill(pile, 0);
        }

        void copyFrom(Board other) {
            vertices = other.vertices;
            edges = other.edges;
            moveCount = other.moveCount;
            strategyCount = other.strategyCount;
            System.arraycopy(other.pile, 0, pile, 0, MOST_VERTICES);
            System.arraycopy(other.distances, 0, distances, 0, PAIRS);
            System.arraycopy(other.targets, 0, targets, 0, MOST_STRATEGIES);
            System.arraycopy(other.weights, 0, weights, 0, PAIRS);
            System.arraycopy(other.parents, 0, parents, 0, PAIRS);
        }

        // -- the graph

        private static long edgeBits(int vertex, int other) {
            return 1L << (6 * vertex + other) | 1L << (6 * other + vertex);
        }

        void join(int vertex, int other) {
            edges |= edgeBits(vertex, other);
        }

        void part(int vertex, int other) {
            edges &= ~edgeBits(vertex, other);
        }

        boolean joins(int vertex, int other) {
            return (edges >> (6 * vertex + other) & 1L) != 0L;
        }

        int edgeCount() {
            return Long.bitCount(edges) / 2;
        }

        private static int neighboursIn(long someEdges, int vertex) {
            return (int) (someEdges >> (6 * vertex)) & 63;
        }

        int neighbours(int vertex) {
            return neighboursIn(edges, vertex);
        }

        private boolean isConnectedBy(long someEdges) {
            int met = 1;
            for (int round = 1; round < vertices; round++) {
                for (int vertex = 0; vertex < vertices; vertex++) {
                    if ((met >> vertex & 1) != 0) {
                        met |= neighboursIn(someEdges, vertex);
                    }
                }
            }
            return Integer.bitCount(met) == vertices;
        }

        boolean isConnected() {
            return isConnectedBy(edges);
        }

        boolean isConnectedWithout(int vertex, int other) {
            return isConnectedBy(edges & ~edgeBits(vertex, other));
        }

        /** To be called after each change of the edges, before a distance is asked for. */
        void measure() {
            for (int vertex = 0; vertex < vertices; vertex++) {
                measureFrom(vertex);
            }
        }

        private void measureFrom(int from) {
            int met = 0;
            int ring = 1 << from;
            for (int far = 0; far < vertices; far++) {
                met |= ring;
                int beyond = 0;
                for (int vertex = 0; vertex < vertices; vertex++) {
                    if ((ring >> vertex & 1) != 0) {
                        distances[6 * from + vertex] = far;
                        beyond |= neighbours(vertex);
                    }
                }
                ring = beyond & ~met;
            }
        }

        int apart(int vertex, int other) {
            return distances[6 * vertex + other];
        }

        /** The distance of a vertex from the nearest vertex of a set. */
        private int apartFromSet(int vertex, int set) {
            int least = vertices;
            for (int other = 0; other < vertices; other++) {
                if ((set >> other & 1) != 0) {
                    least = Math.min(least, apart(vertex, other));
                }
            }
            return least;
        }

        int farthestFrom(int set) {
            int found = 0;
            for (int vertex = 1; vertex < vertices; vertex++) {
                if (apartFromSet(vertex, set) > apartFromSet(found, set)) {
                    found = vertex;
                }
            }
            return found;
        }

        int diameter() {
            int greatest = 0;
            for (int vertex = 0; vertex < vertices; vertex++) {
                for (int other = 0; other < vertex; other++) {
                    greatest = Math.max(greatest, apart(vertex, other));
                }
            }
            return greatest;
        }

        /** Only for a tree, where just one path leads from a vertex to the target. */
        int numberByPaths(int target) {
            int taken = 1 << target;
            int answer = 1;
            for (int round = 1; round < vertices; round++) {
                int end = farthestFrom(taken);
                answer += (1 << apartFromSet(end, taken)) - 1;
                taken |= pathBetween(target, end);
            }
            return answer;
        }

        private int pathBetween(int target, int end) {
            int path = 0;
            for (int vertex = 0; vertex < vertices; vertex++) {
                if (apart(target, vertex) + apart(vertex, end) == apart(target, end)) {
                    path |= 1 << vertex;
                }
            }
            return path;
        }

        int stackFor(int vertex) {
            int needed = 0;
            for (int other = 0; other < vertices; other++) {
                needed += 1 << apart(vertex, other);
            }
            return needed;
        }

        // -- the pile

        int allPebbles() {
            int all = 0;
            for (int vertex = 0; vertex < vertices; vertex++) {
                all += pile[vertex];
            }
            return all;
        }

        boolean allowsMove(int vertex, int other) {
            return pile[vertex] >= 2 && joins(vertex, other) && pile[other] < MOST_PEBBLES;
        }

        void makeMove(int vertex, int other) {
            pile[vertex] -= 2;
            pile[other]++;
            moveCount++;
        }

        // -- the strategies

        void openStrategy(int target) {
            int strategy = strategyCount;
            targets[strategy] = target;
            for (int vertex = 0; vertex < MOST_VERTICES; vertex++) {
                setWeight(strategy, vertex, NONE, 0);
            }
            strategyCount++;
        }

        void closeStrategy(int strategy) {
            for (int i = strategy; i + 1 < strategyCount; i++) {
                targets[i] = targets[i + 1];
                for (int vertex = 0; vertex < vertices; vertex++) {
                    setWeight(i, vertex, parentOf(i + 1, vertex), weightOf(i + 1, vertex));
                }
            }
            strategyCount--;
        }

        void setWeight(int strategy, int vertex, int parent, int weight) {
            weights[6 * strategy + vertex] = weight;
            parents[6 * strategy + vertex] = parent;
        }

        int weightOf(int strategy, int vertex) {
            return weights[6 * strategy + vertex];
        }

        int parentOf(int strategy, int vertex) {
            return parents[6 * strategy + vertex];
        }

        private boolean isSound(int strategy, int vertex) {
            int weight = weightOf(strategy, vertex);
            if (weight == 0) {
                return true;
            }
            int parent = parentOf(strategy, vertex);
            if (parent == NONE || !joins(vertex, parent)) {
                return false;
            }
            return parent == targets[strategy] || weightOf(strategy, parent) >= 2 * weight;
        }

        /** The lowest vertex that makes a strategy not valid, NONE if it is valid. */
        int firstFault(int strategy) {
            for (int vertex = 0; vertex < vertices; vertex++) {
                if (!isSound(strategy, vertex)) {
                    return vertex;
                }
            }
            return NONE;
        }

        int weightOfAll(int strategy) {
            int sum = 0;
            for (int vertex = 0; vertex < vertices; vertex++) {
                sum += weightOf(strategy, vertex);
            }
            return sum;
        }

        int weightOfPile(int strategy) {
            int sum = 0;
            for (int vertex = 0; vertex < vertices; vertex++) {
                sum += weightOf(strategy, vertex) * pile[vertex];
            }
            return sum;
        }

        /** The valid strategies of a target, as a set. */
        int validStrategies(int target) {
            int set = 0;
            for (int strategy = 0; strategy < strategyCount; strategy++) {
                if (targets[strategy] == target && firstFault(strategy) == NONE) {
                    set |= 1 << strategy;
                }
            }
            return set;
        }

        int weightIn(int strategies, int vertex) {
            int sum = 0;
            for (int strategy = 0; strategy < strategyCount; strategy++) {
                if ((strategies >> strategy & 1) != 0) {
                    sum += weightOf(strategy, vertex);
                }
            }
            return sum;
        }
    }

    /** The boards before the latest changes, in a ring. */
    private static final class History {
        final Board[] ring = new Board[MOST_CHANGES];
        int oldest;
        int size;

        void forget() {
            size = 0;
        }

        void keep(Board board) {
            if (size == MOST_CHANGES) {
                oldest = (oldest + 1) % MOST_CHANGES;
                size--;
            }
            int place = (oldest + size) % MOST_CHANGES;
            Board copy = ring[place];
            if (copy == null) {
                copy = new Board();
                ring[place] = copy;
            }
            copy.copyFrom(board);
            size++;
        }

        void bringBack(Board board) {
            size--;
            Board copy = ring[(oldest + size) % MOST_CHANGES];
            if (copy != null) {
                board.copyFrom(copy);
            }
        }
    }

    /**
     * The piles that do not reach a target. Such a pile has fewer than 2 to the power d pebbles on
     * a vertex at the distance d, so that d bits hold them: it is written as one number, vertex 0
     * in the highest bits, and smaller numbers come first in lexicographic order.
     */
    private static final class FailingPiles {
        // An end of a path of six vertices has the most failing piles, 1626, and the distances
        // with the greatest sum: 15 bits.
        static final int MOST_PILES = 2048;
        private static final int MARK_WORDS = 1024;

        final int target;
        boolean isMade;
        int vertices;
        long edges;
        int leastNumber;
        int worstCount;
        int firstWorst;
        final int[] howMany = new int[MOST_AT_ONCE + 1];
        // The most pebbles on a vertex with which a pile can fail: all of its bits.
        private final int[] limits = new int[MOST_VERTICES];
        private final int[] shifts = new int[MOST_VERTICES];
        private final int[] near = new int[MOST_VERTICES];
        private final int[] marks = new int[MARK_WORDS];

        FailingPiles(int target) {
            this.target = target;
        }

        boolean areOf(Board board) {
            return isMade && vertices == board.vertices && edges == board.edges;
        }

        private void clear(Board board) {
            isMade = true;
            vertices = board.vertices;
            edges = board.edges;
            Arrays.fill(marks, 0);
            Arrays.fill(howMany, 0);
            int bits = 0;
            for (int vertex = vertices - 1; vertex >= 0; vertex--) {
                int width = board.apart(target, vertex);
                limits[vertex] = (1 << width) - 1;
                shifts[vertex] = bits;
                near[vertex] = board.neighbours(vertex);
                bits += width;
            }
        }

        private void mark(int code) {
            marks[code >> 5 & MARK_WORDS - 1] |= 1 << (code & 31);
        }

        private boolean isMarked(int code) {
            return (marks[code >> 5 & MARK_WORDS - 1] >> (code & 31) & 1) != 0;
        }

        int pebblesOn(int code, int vertex) {
            return code >> shifts[vertex] & limits[vertex];
        }

        private boolean hasRoom(int code, int vertex) {
            return (~code >> shifts[vertex] & limits[vertex]) != 0;
        }

        // The limit of 999 pebbles on a vertex never stops a pile from reaching the target: of the
        // vertices with more than their limit here the nearest one sends its pebbles on a shortest
        // path, where each vertex has at most 15 and gets at most 16.
        boolean holds(int[] pile) {
            int code = 0;
            for (int vertex = 0; vertex < vertices; vertex++) {
                if (pile[vertex] > limits[vertex]) {
                    return false;
                }
                code |= pile[vertex] << shifts[vertex];
            }
            return isMarked(code);
        }

        // A pile fails only if it fails with a pebble less, so each failing pile comes of one with
        // a pebble less; and after a move it is one of those that were found a round before.
        void collect(Board board, int[] row) {
            clear(board);
            row[0] = 0;
            mark(0);
            int from = 0;
            int to = 1;
            for (int pebbles = 0; pebbles <= MOST_AT_ONCE && from < to; pebbles++) {
                howMany[pebbles] = to - from;
                leastNumber = pebbles + 1;
                worstCount = to - from;
                firstWorst = row[from];
                int end = extend(row, from, to);
                from = to;
                to = end;
            }
        }

        /** Puts the failing piles with a pebble more behind those from 'from' to 'to'. */
        private int extend(int[] row, int from, int to) {
            int end = to;
            for (int i = from; i < to; i++) {
                int code = row[i];
                // Only the last vertex with pebbles and those behind it get one more, the last
                // vertex of all first: so no pile is found twice, and those with as many pebbles
                // stand in lexicographic order.
                for (int vertex = vertices - 1; vertex >= 0; vertex--) {
                    int larger = code + (1 << shifts[vertex]);
                    if (hasRoom(code, vertex) && end < row.length && fails(larger)) {
                        mark(larger);
                        row[end] = larger;
                        end++;
                    }
                    if (pebblesOn(code, vertex) > 0) {
                        break;
                    }
                }
            }
            return end;
        }

        private boolean fails(int code) {
            for (int vertex = 0; vertex < vertices; vertex++) {
                if (pebblesOn(code, vertex) >= 2 && !failsAfterMoveFrom(vertex, code)) {
                    return false;
                }
            }
            return true;
        }

        private boolean failsAfterMoveFrom(int vertex, int code) {
            int less = code - (2 << shifts[vertex]);
            for (int other = 0; other < vertices; other++) {
                if ((near[vertex] >> other & 1) != 0
                        && !(hasRoom(code, other) && isMarked(less + (1 << shifts[other])))) {
                    return false;
                }
            }
            return true;
        }
    }

    /** What can come of a pile of few pebbles by moves. */
    private static final class Outlook {
        // At most 8102 piles come of one with 14 pebbles: of 4 2 2 2 2 2 on the complete graph.
        private static final int MOST_PILES = 8192;
        private static final int SLOTS = 16384;
        private static final int SPREADER = 0x9E3779B1;

        boolean isMade;
        int vertices;
        long edges;
        int firstPile;
        int pileCount;
        int fewestEmpty;
        final int[] fewestMoves = new int[MOST_VERTICES];
        private final int[] row = new int[MOST_PILES];
        private final int[] slots = new int[SLOTS];

        /** For a board with at most 14 pebbles. */
        void fit(Board board) {
            int pile = pack(board);
            if (isMade && vertices == board.vertices && edges == board.edges && firstPile == pile) {
                return;
            }
            isMade = true;
            vertices = board.vertices;
            edges = board.edges;
            firstPile = pile;
            explore(board);
        }

        /** A pile is one number, four bits for each vertex. */
        private static int pack(Board board) {
            int packed = 0;
            for (int vertex = 0; vertex < board.vertices; vertex++) {
                packed |= board.pile[vertex] << 4 * vertex;
            }
            return packed;
        }

        private static int pebblesOn(int packed, int vertex) {
            return packed >> 4 * vertex & 15;
        }

        private static int pebblesIn(int packed) {
            int all = 0;
            for (int vertex = 0; vertex < MOST_VERTICES; vertex++) {
                all += pebblesOn(packed, vertex);
            }
            return all;
        }

        private void explore(Board board) {
            clear();
            int all = pebblesIn(firstPile);
            int end = addIfNew(firstPile, 0);
            // Each move loses a pebble, and piles of more moves stand behind those of fewer.
            for (int i = 0; i < end && i < MOST_PILES; i++) {
                look(row[i], all - pebblesIn(row[i]));
                end = spread(board, row[i], end);
            }
            pileCount = end;
        }

        private void clear() {
            Arrays.fill(slots, 0);
            Arrays.fill(fewestMoves, NONE);
            fewestEmpty = vertices;
        }

        private void look(int packed, int made) {
            int empty = 0;
            for (int vertex = 0; vertex < vertices; vertex++) {
                if (pebblesOn(packed, vertex) == 0) {
                    empty++;
                } else if (fewestMoves[vertex] == NONE) {
                    fewestMoves[vertex] = made;
                }
            }
            fewestEmpty = Math.min(fewestEmpty, empty);
        }

        /** Puts the new piles that come of one by a move behind 'length' piles of the row. */
        private int spread(Board board, int packed, int length) {
            int end = length;
            for (int vertex = 0; vertex < vertices; vertex++) {
                if (pebblesOn(packed, vertex) >= 2) {
                    int less = packed - (2 << 4 * vertex);
                    int near = board.neighbours(vertex);
                    for (int other = 0; other < vertices; other++) {
                        if ((near >> other & 1) != 0) {
                            end = addIfNew(less + (1 << 4 * other), end);
                        }
                    }
                }
            }
            return end;
        }

        // The slots are a hash table of the piles in the row, each one more than its number, as 0
        // stands for a free slot; the row is half as long, so that there always is a free one.
        private int addIfNew(int packed, int length) {
            int slot = packed * SPREADER >>> 18;
            for (int i = 0; i < SLOTS && slots[slot] != 0; i++) {
                if (slots[slot] == packed + 1) {
                    return length;
                }
                slot = slot + 1 & SLOTS - 1;
            }
            if (length >= MOST_PILES) {
                return length;
            }
            slots[slot] = packed + 1;
            row[length] = packed;
            return length + 1;
        }
    }

    /** The input buffer, and its reading as a setup text. */
    private static final class SetupText {
        private static final int END = 0;
        private static final int WORD = 1;
        private static final int NUMBER = 2;
        private static final int SIGN = 3;
        private static final int MOST_DIGITS = 3;

        private final int[] bytes = new int[MOST_BYTES];
        int length;
        final Board draft = new Board();
        private int kind;
        private int start;
        private int stop;
        private int value;

        // -- the buffer

        static int bytesIn(int four) {
            int found = 0;
            for (int shift = 24; shift >= 0; shift -= 8) {
                if ((four >> shift & 255) != 0) {
                    found++;
                }
            }
            return found;
        }

        void addBytes(int four) {
            for (int shift = 24; shift >= 0; shift -= 8) {
                int one = four >> shift & 255;
                if (one != 0 && length < MOST_BYTES) {
                    bytes[length] = one;
                    length++;
                }
            }
        }

        // -- tokens

        private int endOfRun(int low, int high) {
            int place = start;
            while (place < length && bytes[place] >= low && bytes[place] <= high) {
                place++;
            }
            return place;
        }

        private void readToken() {
            start = stop;
            start = endOfRun(' ', ' ');
            int letters = endOfRun('a', 'z');
            int digits = endOfRun('0', '9');
            stop = Math.max(letters, digits);
            if (start >= length) {
                kind = END;
            } else if (letters > start) {
                kind = WORD;
            } else if (digits > start) {
                kind = NUMBER;
                value = numberRead();
            } else {
                kind = SIGN;
                value = bytes[start];
                stop = start + 1;
            }
        }

        /** The value of a number, or NONE, which is in no range, if it has too many digits. */
        private int numberRead() {
            if (stop - start > MOST_DIGITS) {
                return NONE;
            }
            int number = 0;
            for (int place = start; place < stop; place++) {
                number = 10 * number + bytes[place] - '0';
            }
            return number;
        }

        private boolean isWord(String word) {
            if (kind != WORD || stop - start != word.length()) {
                return false;
            }
            for (int i = 0; i < word.length(); i++) {
                if (bytes[start + i] != word.charAt(i)) {
                    return false;
                }
            }
            return true;
        }

        private boolean isNumber(int low, int high) {
            return kind == NUMBER && value >= low && value <= high;
        }

        private boolean isVertex() {
            return isNumber(0, draft.vertices - 1);
        }

        private boolean isSemicolon() {
            return kind == SIGN && value == ';';
        }

        // -- statements: each ends before the token that it does not take; one that answers false
        //    stands before the token that cannot be accepted

        /** The error position, NONE if the text is valid; the draft is then what it tells. */
        int check() {
            stop = 0;
            readToken();
            boolean fits = readVertices();
            for (int i = 0; i < MOST_BYTES && fits && isSemicolon(); i++) {
                readToken();
                fits = readStatement();
            }
            return fits && kind == END && draft.isConnected() ? NONE : start;
        }

        private boolean readVertices() {
            if (!isWord("vertices")) {
                return false;
            }
            readToken();
            if (!isNumber(1, MOST_VERTICES)) {
                return false;
            }
            draft.begin(value);
            readToken();
            return true;
        }

        private boolean readStatement() {
            if (isWord("edge")) {
                return readPath();
            }
            if (isWord("pile")) {
                return readPile();
            }
            return isWord("strategy") && readStrategy();
        }

        private boolean readPath() {
            readToken();
            if (!isVertex()) {
                return false;
            }
            int before = value;
            readToken();
            for (int i = 0; i < MOST_BYTES && (i == 0 || kind == NUMBER); i++) {
                if (!isVertex() || value == before || draft.joins(before, value)) {
                    return false;
                }
                draft.join(before, value);
                before = value;
                readToken();
            }
            return true;
        }

        private boolean readPile() {
            readToken();
            if (!isVertex()) {
                return false;
            }
            int vertex = value;
            readToken();
            if (!isNumber(0, MOST_PEBBLES)) {
                return false;
            }
            draft.pile[vertex] = value;
            readToken();
            return true;
        }

        private boolean readStrategy() {
            if (draft.strategyCount >= MOST_STRATEGIES) {
                return false;
            }
            readToken();
            if (!isVertex()) {
                return false;
            }
            draft.openStrategy(value);
            readToken();
            for (int i = 0; i < MOST_BYTES && kind == NUMBER; i++) {
                if (!readWeight(draft.strategyCount - 1)) {
                    return false;
                }
            }
            return true;
        }

        private boolean readWeight(int strategy) {
            if (!isVertex() || value == draft.targets[strategy]) {
                return false;
            }
            int vertex = value;
            readToken();
            if (!isVertex()) {
                return false;
            }
            int parent = value;
            readToken();
            if (!isNumber(0, MOST_WEIGHT)) {
                return false;
            }
            draft.setWeight(strategy, vertex, parent, value);
            readToken();
            return true;
        }
    }
}
