/**
 * A graph of states and moves in which asks wait: which ones may wait for ever, in which parts of
 * the graph, when some kinds of moves are fair; dead ends; how long an ask can wait where nothing
 * goes round, with ranks that fall.
 *
 * Every question is worked out anew from the graph: nothing is kept between calls that a later
 * state, move or label could make wrong. All rows are made once, in the constructors.
 */
public final class FairLoops {
    public static final int NONE = -1;

    private static final int ASKS = 8;
    private static final int LABELS = 16;
    private static final int MOST_STATES = 200;
    private static final int MOST_MOVES = 600;
    private static final int FREE = 0;
    private static final int WEAK = 1;
    private static final int STRONG = 2;

    private final Graph graph;
    private final int[] kinds;
    private final Reach reach;
    private final Knots knots;
    private final Sums sums;
    private final int[] ranks;

    public FairLoops() {
        graph = new Graph();
        kinds = new int[LABELS];
        reach = new Reach();
        knots = new Knots();
        sums = new Sums();
        ranks = new int[MOST_STATES];
    }

    public int state(int asks, boolean end)
            throws IllegalArgumentException, UnsupportedOperationException {
        if (asks < 0 || asks >= 1 << ASKS) {
            throw new IllegalArgumentException("asks are not 0 .. 255");
        }
        if (graph.states >= MOST_STATES) {
            throw new UnsupportedOperationException("there are 200 states");
        }
        return graph.addState(asks, end);
    }

    public int move(int from, int to, int label)
            throws IllegalArgumentException, UnsupportedOperationException {
        if (!graph.hasState(from) || !graph.hasState(to)) {
            throw new IllegalArgumentException("no such state");
        }
        if (label != NONE && !isLabel(label)) {
            throw new IllegalArgumentException("no such label");
        }
        if (graph.moves >= MOST_MOVES) {
            throw new UnsupportedOperationException("there are 600 moves");
        }
        return graph.addMove(from, to, label);
    }

    public int label(int label, int how)
            throws IndexOutOfBoundsException, IllegalArgumentException {
        if (!isLabel(label)) {
            throw new IndexOutOfBoundsException("no such label");
        }
        if (how != FREE && how != WEAK && how != STRONG) {
            throw new IllegalArgumentException("a label is free, weak or strong");
        }
        int was = kinds[label];
        kinds[label] = how;
        return was;
    }

    public int reached() {
        reach.walk(graph);
        return reach.found;
    }

    public boolean live(int ask) throws IllegalArgumentException {
        refuseWrongAsk(ask);
        return alwaysServed(ask);
    }

    public int parts(int ask) throws IllegalArgumentException {
        refuseWrongAsk(ask);
        findFairParts(ask);
        return knots.found;
    }

    public int part(int ask, int k, int i)
            throws IllegalArgumentException, IndexOutOfBoundsException {
        refuseWrongAsk(ask);
        findFairParts(ask);
        int knot = knotByLowestState(k);
        int answer = knot == NONE ? NONE : stateOfKnot(knot, i);
        if (answer == NONE) {
            throw new IndexOutOfBoundsException("no such state of a fair part");
        }
        return answer;
    }

    public int dead(int ask, int k)
            throws IllegalArgumentException, IndexOutOfBoundsException {
        refuseWrongAsk(ask);
        chooseStatesOf(ask);
        int answer = deadEnd(k);
        if (answer == NONE) {
            throw new IndexOutOfBoundsException("no such dead end");
        }
        return answer;
    }

    public int longest(int ask) throws IllegalArgumentException {
        refuseWrongAsk(ask);
        findParts(ask);
        if (sums.largestSize(knots.found) > 0) {
            return NONE;
        }
        return fillRanks();
    }

    public int rank(int ask, int state)
            throws IllegalArgumentException, IndexOutOfBoundsException {
        refuseWrongAsk(ask);
        refuseWrongState(state);
        findParts(ask);
        if (!knots.chosen[state] || sums.largestSize(knots.found) > 0) {
            return NONE;
        }
        fillRanks();
        return ranks[state];
    }

    public int row(int state, int i) throws IndexOutOfBoundsException {
        refuseWrongState(state);
        if (i < 0) {
            throw new IndexOutOfBoundsException("a row begins with move 0");
        }
        reach.walk(graph);
        return reach.moveOnWayTo(graph, state, i);
    }

    public int largest(int ask) throws IllegalArgumentException {
        refuseWrongAsk(ask);
        findParts(ask);
        return sums.largestSize(knots.found);
    }

    public int count(int what) {
        switch (what) {
            case 0:
                return graph.states;
            case 1:
                return graph.moves;
            case 2:
                return graph.ends;
            case 3:
                return Integer.bitCount(labelsOfKind(WEAK));
            case 4:
                return Integer.bitCount(labelsOfKind(STRONG));
            case 5:
                return liveAsks();
            default:
                return NONE;
        }
    }

    private static void refuseWrongAsk(int ask) {
        if (ask < 0 || ask >= ASKS) {
            throw new IllegalArgumentException("an ask is 0 .. 7");
        }
    }

    private void refuseWrongState(int state) {
        if (!graph.hasState(state)) {
            throw new IndexOutOfBoundsException("no such state");
        }
    }

    private static boolean isLabel(int label) {
        return label >= 0 && label < LABELS;
    }

    private int labelsOfKind(int kind) {
        int mask = 0;
        for (int label = 0; label < LABELS; label++) {
            if (kinds[label] == kind) {
                mask |= 1 << label;
            }
        }
        return mask;
    }

    private int liveAsks() {
        int many = 0;
        for (int ask = 0; ask < ASKS; ask++) {
            if (alwaysServed(ask)) {
                many++;
            }
        }
        return many;
    }

    private boolean alwaysServed(int ask) {
        chooseStatesOf(ask);
        if (deadEnd(0) != NONE) {
            return false;
        }
        keepFairStates();
        return knots.found == 0;
    }

    private void chooseStatesOf(int ask) {
        reach.walk(graph);
        for (int s = 0; s < graph.states; s++) {
            knots.chosen[s] = reach.far[s] != NONE && (graph.asks[s] >> ask & 1) == 1;
        }
    }

    private void findParts(int ask) {
        chooseStatesOf(ask);
        knots.find(graph);
        sums.take(graph, knots);
    }

    private void findFairParts(int ask) {
        chooseStatesOf(ask);
        keepFairStates();
    }

    /**
     * Leaves chosen just the states of fair parts, each fair part being a knot of its own. What is
     * dropped is in no fair part, and every round but the last drops a state.
     */
    private void keepFairStates() {
        int weak = labelsOfKind(WEAK);
        int strong = labelsOfKind(STRONG);
        boolean dropped = true;
        for (int round = 0; round <= graph.states && dropped; round++) {
            knots.find(graph);
            sums.take(graph, knots);
            dropped = dropUnfairStates(weak, strong);
        }
    }

    private boolean dropUnfairStates(int weak, int strong) {
        boolean dropped = false;
        for (int s = 0; s < graph.states; s++) {
            if (knots.chosen[s] && isUnfair(s, weak, strong)) {
                knots.chosen[s] = false;
                dropped = true;
            }
        }
        return dropped;
    }

    /**
     * A weak label that is able all over a knot but never moves inside it spoils each subset of the
     * knot, too; a strong one spoils only the sets with a state in which it is able.
     */
    private boolean isUnfair(int s, int weak, int strong) {
        int knot = knots.knotOf[s];
        int missing = ~sums.inside[knot];
        return !sums.goesRound[knot]
                || (weak & sums.ableInAll[knot] & missing) != 0
                || (strong & graph.able[s] & missing) != 0;
    }

    private int knotByLowestState(int k) {
        int before = 0;
        for (int s = 0; s < graph.states; s++) {
            if (knots.chosen[s] && sums.lowest[knots.knotOf[s]] == s) {
                if (before == k) {
                    return knots.knotOf[s];
                }
                before++;
            }
        }
        return NONE;
    }

    private int stateOfKnot(int knot, int i) {
        int before = 0;
        for (int s = 0; s < graph.states; s++) {
            if (knots.chosen[s] && knots.knotOf[s] == knot) {
                if (before == i) {
                    return s;
                }
                before++;
            }
        }
        return NONE;
    }

    private int deadEnd(int k) {
        int before = 0;
        for (int s = 0; s < graph.states; s++) {
            if (knots.chosen[s] && graph.isStuck(s)) {
                if (before == k) {
                    return s;
                }
                before++;
            }
        }
        return NONE;
    }

    /**
     * Ranks of the chosen states, and the highest of them (0 without states); right only where no
     * knot goes round, for then each move leads to a state that was closed before.
     */
    private int fillRanks() {
        int highest = 0;
        for (int i = 0; i < knots.closed; i++) {
            int s = knots.order[i];
            ranks[s] = rankAbove(s);
            if (ranks[s] > highest) {
                highest = ranks[s];
            }
        }
        return highest;
    }

    private int rankAbove(int s) {
        int rank = 0;
        for (int j = graph.start[s]; j < graph.start[s + 1]; j++) {
            int t = graph.to[graph.out[j]];
            if (knots.chosen[t] && ranks[t] >= rank) {
                rank = ranks[t] + 1;
            }
        }
        return rank;
    }

    /** The states and moves as they were told. */
    private static final class Graph {
        int states;
        int moves;
        int ends;
        final int[] asks = new int[MOST_STATES];
        final boolean[] isEnd = new boolean[MOST_STATES];
        /** The labels that are able in a state, as bits. */
        final int[] able = new int[MOST_STATES];
        final int[] from = new int[MOST_MOVES];
        final int[] to = new int[MOST_MOVES];
        final int[] labelOf = new int[MOST_MOVES];
        /** The moves by the states where they begin, then by number; those of s from start[s] on. */
        final int[] out = new int[MOST_MOVES];
        final int[] start = new int[MOST_STATES + 1];

        boolean hasState(int s) {
            return s >= 0 && s < states;
        }

        int addState(int askBits, boolean end) {
            int s = states;
            asks[s] = askBits;
            isEnd[s] = end;
            if (end) {
                ends++;
            }
            states++;
            start[states] = moves;
            return s;
        }

        int addMove(int a, int b, int label) {
            int m = moves;
            from[m] = a;
            to[m] = b;
            labelOf[m] = label;
            if (label != NONE) {
                able[a] |= 1 << label;
            }
            for (int j = m; j > start[a + 1]; j--) {
                out[j] = out[j - 1];
            }
            out[start[a + 1]] = m;
            for (int s = a + 1; s <= states; s++) {
                start[s]++;
            }
            moves++;
            return m;
        }

        boolean isStuck(int s) {
            return !isEnd[s] && start[s] == start[s + 1];
        }
    }

    /** Which states are reached, and how first. */
    private static final class Reach {
        int found;
        final int[] line = new int[MOST_STATES];
        /** How many moves the row to a state has; NONE when it is not reached. */
        final int[] far = new int[MOST_STATES];
        final int[] lastMove = new int[MOST_STATES];

        /**
         * Goes breadth first with moves by number. So the states of one distance stand in line as
         * their rows do as words, and the first move that finds a state ends its first row.
         */
        void walk(Graph g) {
            for (int s = 0; s < g.states; s++) {
                far[s] = NONE;
            }
            found = 0;
            if (g.states > 0) {
                join(0, 0, NONE);
            }
            for (int i = 0; i < g.states && i < found; i++) {
                int s = line[i];
                for (int j = g.start[s]; j < g.start[s + 1]; j++) {
                    int m = g.out[j];
                    if (far[g.to[m]] == NONE) {
                        join(g.to[m], far[s] + 1, m);
                    }
                }
            }
        }

        private void join(int s, int distance, int byMove) {
            far[s] = distance;
            lastMove[s] = byMove;
            line[found] = s;
            found++;
        }

        int moveOnWayTo(Graph g, int state, int i) {
            if (i >= far[state]) {
                return NONE;
            }
            int s = state;
            for (int d = far[state] - 1; d > i; d--) {
                s = g.from[lastMove[s]];
            }
            return lastMove[s];
        }
    }

    /**
     * The chosen states split into knots: largest sets of which each state can be come to from each
     * other one inside the chosen ones. A knot is a part when it goes round, else a lone state.
     * (Tarjan's way, with rows in place of recursion, as a path can have 200 states.)
     */
    private static final class Knots {
        final boolean[] chosen = new boolean[MOST_STATES];
        int found;
        final int[] knotOf = new int[MOST_STATES];
        /** The chosen states as their knots were closed: no move leads to a knot that is closed later. */
        final int[] order = new int[MOST_STATES];
        int closed;
        /** When a state was entered, from 1 on; 0 before. */
        private final int[] entered = new int[MOST_STATES];
        private int entries;
        private final int[] low = new int[MOST_STATES];
        private final int[] nextOut = new int[MOST_STATES];
        private final int[] path = new int[MOST_STATES];
        private int depth;
        private final int[] open = new int[MOST_STATES];
        private int opened;

        void find(Graph g) {
            found = 0;
            closed = 0;
            entries = 0;
            depth = 0;
            opened = 0;
            for (int s = 0; s < g.states; s++) {
                entered[s] = 0;
                knotOf[s] = NONE;
            }
            for (int s = 0; s < g.states; s++) {
                if (chosen[s] && entered[s] == 0) {
                    walkFrom(g, s);
                }
            }
        }

        /** Each step uses up a move or leaves a state, which bounds the steps. */
        private void walkFrom(Graph g, int root) {
            enter(g, root);
            int most = g.states + g.moves;
            for (int step = 0; step < most && depth > 0; step++) {
                int s = path[depth - 1];
                if (nextOut[s] == g.start[s + 1]) {
                    closeKnotBegunBy(s);
                    leave(s);
                } else {
                    int t = g.to[g.out[nextOut[s]]];
                    nextOut[s]++;
                    if (chosen[t] && entered[t] == 0) {
                        enter(g, t);
                    } else if (chosen[t] && knotOf[t] == NONE) {
                        lower(s, entered[t]);
                    }
                }
            }
        }

        private void enter(Graph g, int s) {
            entries++;
            entered[s] = entries;
            low[s] = entries;
            nextOut[s] = g.start[s];
            path[depth] = s;
            depth++;
            open[opened] = s;
            opened++;
        }

        private void lower(int s, int to) {
            if (to < low[s]) {
                low[s] = to;
            }
        }

        /** A state from which none entered before it can be come to has its whole knot open above it. */
        private void closeKnotBegunBy(int s) {
            if (low[s] != entered[s]) {
                return;
            }
            while (opened > 0 && knotOf[s] == NONE) {
                opened--;
                int t = open[opened];
                knotOf[t] = found;
                order[closed] = t;
                closed++;
            }
            found++;
        }

        private void leave(int s) {
            depth--;
            if (depth > 0) {
                lower(path[depth - 1], low[s]);
            }
        }
    }

    /** What is to be known of each knot. */
    private static final class Sums {
        final int[] size = new int[MOST_STATES];
        final int[] lowest = new int[MOST_STATES];
        /** Labels, as bits, that are able in all states of the knot. */
        final int[] ableInAll = new int[MOST_STATES];
        /** Labels, as bits, of the moves that begin and end in the knot. */
        final int[] inside = new int[MOST_STATES];
        final boolean[] goesRound = new boolean[MOST_STATES];

        void take(Graph g, Knots knots) {
            for (int k = 0; k < knots.found; k++) {
                size[k] = 0;
                ableInAll[k] = ~0;
                inside[k] = 0;
                goesRound[k] = false;
            }
            for (int s = 0; s < g.states; s++) {
                if (knots.chosen[s]) {
                    addState(s, knots.knotOf[s], g.able[s]);
                }
            }
            for (int m = 0; m < g.moves; m++) {
                int a = g.from[m];
                int b = g.to[m];
                if (knots.chosen[a] && knots.chosen[b] && knots.knotOf[a] == knots.knotOf[b]) {
                    addMove(knots.knotOf[a], g.labelOf[m]);
                }
            }
        }

        /** States come by number, so the first one of a knot is its lowest. */
        private void addState(int s, int knot, int able) {
            if (size[knot] == 0) {
                lowest[knot] = s;
            }
            size[knot]++;
            ableInAll[knot] &= able;
        }

        private void addMove(int knot, int label) {
            goesRound[knot] = true;
            if (label != NONE) {
                inside[knot] |= 1 << label;
            }
        }

        int largestSize(int found) {
            int largest = 0;
            for (int k = 0; k < found; k++) {
                if (goesRound[k] && size[k] > largest) {
                    largest = size[k];
                }
            }
            return largest;
        }
    }
}
