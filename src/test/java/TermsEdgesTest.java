/**
 * The boundary cases of the document's parts 'What it is' and 'Terms': each sentence that names one
 * has a test of its own, which names the sentence in the document's words.
 */
public final class TermsEdgesTest {
    private static final int NONE = FairLoops.NONE;
    private static final int FREE = 0;
    private static final int WEAK = 1;
    private static final int STRONG = 2;
    private static final int LOWEST = Integer.MIN_VALUE;
    private static final int HIGHEST = Integer.MAX_VALUE;
    private static final Class<IllegalArgumentException> ARGUMENT = IllegalArgumentException.class;
    private static final Class<IndexOutOfBoundsException> INDEX = IndexOutOfBoundsException.class;

    private static final Due due = new Due();

    public static void main(String[] args) {
        the512thCall();
        firstState();
        asksOfStates();
        endsOfStates();
        movesToTheSameState();
        labelsOfMoves();
        kindsOfLabels();
        ableWhereAMoveBegins();
        reachedByMoves();
        itsStates();
        itsMoves();
        smallestParts();
        weakAbleInAll();
        strongAbleInAny();
        movesInThePart();
        noLargerFairPart();
        numberedByLowest();
        noCommonState();
        deadEnds();
        liveAsks();
        waitsOneBehindTheOther();
        noRanksBesideAPart();
        ranksFall();
        shortestRow();
        firstRowAsWords();
        firstExceptionTold();
        wrongAsks();
        rightAsks();
        nothingThere();
        due.end();
    }

    private static void partIs(FairLoops x, int ask, int k, int... want) {
        for (int i = 0; i < want.length; i++) {
            due.is("part(" + ask + ", " + k + ", " + i + ")", x.part(ask, k, i), want[i]);
        }
        due.refuses("part(" + ask + ", " + k + ") behind its last", INDEX, () -> x.part(ask, k, want.length));
    }

    /** A ring of 200 states, and 111 moves more from state 0 to itself. */
    private static FairLoops usedFor511Calls() {
        FairLoops x = Graphs.ring(255, 0);
        for (int call = 401; call <= 511; call++) {
            x.move(0, 0, 15);
        }
        return x;
    }

    private static void the512thCall() {
        due.about("An object is used for at most 512 calls after it has been made");
        due.refuses("512th call: state", UnsupportedOperationException.class,
                () -> usedFor511Calls().state(0, false));
        due.is("512th call: move", usedFor511Calls().move(199, 0, 15), 311);
        due.is("512th call: label", usedFor511Calls().label(15, WEAK), FREE);
        due.is("512th call: reached", usedFor511Calls().reached(), 200);
        due.is("512th call: live", usedFor511Calls().live(7), false);
        due.is("512th call: parts", usedFor511Calls().parts(7), 1);
        due.is("512th call: part", usedFor511Calls().part(7, 0, 199), 199);
        due.refuses("512th call: dead", INDEX, () -> usedFor511Calls().dead(7, 0));
        due.is("512th call: longest", usedFor511Calls().longest(7), NONE);
        due.is("512th call: rank", usedFor511Calls().rank(7, 199), NONE);
        due.is("512th call: row", usedFor511Calls().row(199, 198), 198);
        due.is("512th call: largest", usedFor511Calls().largest(7), 200);
        due.is("512th call: count", usedFor511Calls().count(1), 311);
        due.is("512th call: count of live asks", usedFor511Calls().count(5), 0);
        FairLoops x = Graphs.with(1);
        for (int call = 2; call <= 512; call++) {
            due.is("call " + call + ", all of them moves", x.move(0, 0, NONE), call - 2);
        }
        FairLoops y = new FairLoops();
        for (int call = 1; call <= 511; call++) {
            due.refuses("call " + call + ", all of them refused", ARGUMENT, () -> y.state(256, false));
        }
        due.is("512th call, the first that is not refused", y.state(255, false), 0);
    }

    private static void firstState() {
        due.about("STATES are numbered from 0, the first one is where all begins");
        FairLoops x = new FairLoops();
        due.is("the first one's number", x.state(1, false), 0);
        due.is("the second one's number", x.state(1, false), 1);
        x.move(1, 0, NONE);
        due.is("one begins in 0, not in 1", x.reached(), 1);
        due.is("row to the first one", x.row(0, 0), NONE);
        due.is("row to the second one", x.row(1, 0), NONE);
    }

    private static void asksOfStates() {
        due.about("each has ASKS 0 .. 7 that WAIT in it");
        for (int ask = 0; ask < 8; ask++) {
            FairLoops x = Graphs.with(1 << ask);
            for (int other = 0; other < 8; other++) {
                due.is("ask " + other + " with asks " + (1 << ask), x.rank(other, 0), other == ask ? 0 : NONE);
            }
            due.is("none waits with asks 0", Graphs.with(0).rank(ask, 0), NONE);
            due.is("all wait with asks 255", Graphs.with(255).rank(ask, 0), 0);
        }
    }

    private static void endsOfStates() {
        due.about("and may be an END");
        FairLoops x = new FairLoops();
        x.state(255, true);
        due.is("the first one is an end", x.live(7), true);
        due.is("ends", x.count(2), 1);
        FairLoops y = Graphs.with(255);
        due.is("the first one is no end", y.live(7), false);
        due.is("no ends", y.count(2), 0);
    }

    private static void movesToTheSameState() {
        due.about("MOVES lead from a state to a state (perhaps the same one)");
        FairLoops x = Graphs.with(1);
        due.is("from the only one to itself", x.move(0, 0, NONE), 0);
        partIs(x, 0, 0, 0);
        FairLoops y = Graphs.full(1);
        due.is("from the first one to the last", y.move(0, 199, NONE), 0);
        due.is("from the last one to itself", y.move(199, 199, NONE), 1);
        partIs(y, 0, 0, 199);
    }

    /** The only loop can be left by the label alone, so making it strong shows which label it is. */
    private static FairLoops leftBy(int label) {
        FairLoops x = Graphs.with(1, 0);
        x.move(0, 0, NONE);
        x.move(0, 1, label);
        return x;
    }

    private static void labelsOfMoves() {
        due.about("and have a LABEL 0 .. 15, or none (NONE)");
        for (int label = 0; label < 16; label++) {
            FairLoops x = leftBy(label);
            for (int other = 0; other < 16; other++) {
                if (other != label) {
                    x.label(other, STRONG);
                }
            }
            due.is("all labels strong but the move's " + label, x.parts(0), 1);
            x.label(label, STRONG);
            due.is("the move's label " + label + ", too", x.parts(0), 0);
        }
        FairLoops y = leftBy(NONE);
        for (int label = 0; label < 16; label++) {
            y.label(label, label % 2 == 0 ? WEAK : STRONG);
        }
        due.is("a move without label, all labels fair", y.parts(0), 1);
    }

    private static void kindsOfLabels() {
        due.about("A label is FREE (0), WEAK (1) or STRONG (2); free at first.");
        for (int label = 0; label < 16; label++) {
            FairLoops x = leftBy(label);
            due.is("label " + label + " at first, by its part", x.parts(0), 1);
            due.is("label " + label + " at first", x.label(label, FREE), 0);
        }
        FairLoops x = Graphs.with(1, 1, 0);
        x.move(0, 1, NONE);
        x.move(1, 0, NONE);
        x.move(1, 2, 3);
        due.is("free: nothing is asked of it", x.parts(0), 1);
        x.label(3, 1);
        due.is("1 is weak: able in one of two states", x.parts(0), 1);
        x.label(3, 2);
        due.is("2 is strong: able in one of two states", x.parts(0), 0);
        x.label(3, 0);
        due.is("0 is free", x.parts(0), 1);
    }

    private static void ableWhereAMoveBegins() {
        due.about("A label is ABLE in a state, when a move with it begins there.");
        FairLoops x = Graphs.with(0, 1, 0);
        x.move(0, 1, 3);
        x.move(1, 1, NONE);
        x.label(3, STRONG);
        due.is("not where it ends", x.parts(0), 1);
        x.move(1, 2, NONE);
        due.is("not by a move without it", x.parts(0), 1);
        x.move(1, 2, 3);
        due.is("where it begins, though it ends where the ask does not wait", x.parts(0), 0);
        FairLoops y = leftBy(0);
        y.move(0, 1, 15);
        y.label(0, STRONG);
        due.is("the first of two labels", y.parts(0), 0);
        y.label(0, FREE);
        y.label(15, STRONG);
        due.is("the second of two labels", y.parts(0), 0);
    }

    private static void reachedByMoves() {
        due.about("REACHED are states to which one comes from the first one by moves.");
        due.is("no states", new FairLoops().reached(), 0);
        FairLoops x = Graphs.with(1, 1, 1);
        due.is("the first one, by no move", x.reached(), 1);
        x.move(1, 2, NONE);
        x.move(2, 0, NONE);
        due.is("not against the moves", x.reached(), 1);
        x.move(0, 1, NONE);
        due.is("by two moves", x.reached(), 3);
        due.is("by 199 moves", Graphs.line(0).reached(), 200);
    }

    private static void itsStates() {
        due.about("ITS states are reached ones in which it waits");
        FairLoops x = Graphs.with(0, 1, 1);
        x.move(1, 1, NONE);
        due.is("not reached: parts", x.parts(0), 0);
        due.is("not reached: largest", x.largest(0), 0);
        due.is("not reached: longest", x.longest(0), 0);
        due.is("not reached: live", x.live(0), true);
        due.is("not reached: rank", x.rank(0, 2), NONE);
        due.refuses("not reached: dead", INDEX, () -> x.dead(0, 0));
        x.move(0, 1, NONE);
        x.move(0, 2, NONE);
        partIs(x, 0, 0, 1);
        due.is("reached: dead", x.dead(0, 0), 2);
        due.is("reached, but it does not wait there", x.largest(1), 0);
        due.refuses("reached, but it does not wait there: dead", INDEX, () -> x.dead(1, 0));
    }

    private static void itsMoves() {
        due.about("its moves are those from one of its states to one of its states");
        FairLoops x = Graphs.with(1, 2, 1);
        x.move(0, 1, NONE);
        due.is("to where it does not wait", x.longest(0), 0);
        x.move(1, 2, NONE);
        due.is("from where it does not wait", x.longest(0), 0);
        x.move(2, 1, NONE);
        x.move(1, 0, NONE);
        due.is("rings through where it does not wait", x.largest(0), 0);
        due.is("nothing goes round there", x.longest(0), 0);
        x.move(2, 0, NONE);
        due.is("from one of its states to one of them", x.longest(0), 1);
    }

    private static void smallestParts() {
        due.about("A PART is a set of its states, of which each can be come to from each (itself, too)"
                + " by one or more moves that stay in the set.");
        due.is("the empty set is none", new FairLoops().parts(0), 0);
        FairLoops x = Graphs.with(1, 1, 0);
        due.is("one state, no move: parts", x.parts(0), 0);
        due.is("one state, no move: largest", x.largest(0), 0);
        x.move(0, 1, NONE);
        x.move(0, 1, NONE);
        due.is("two states, there but not back", x.largest(0), 0);
        x.move(1, 2, NONE);
        x.move(2, 0, NONE);
        due.is("back by moves that do not stay in the set", x.largest(0), 0);
        x.move(1, 1, NONE);
        due.is("one state, to itself by one move", x.largest(0), 1);
        partIs(x, 0, 0, 1);
        x.move(1, 0, NONE);
        due.is("two states, there and back", x.largest(0), 2);
        partIs(x, 0, 0, 0, 1);
    }

    private static void weakAbleInAll() {
        due.about("It is FAIR, when for each weak label that is able in all states of the part");
        FairLoops x = Graphs.with(1, 1, 1, 0);
        for (int s = 0; s < 3; s++) {
            x.move(s, (s + 1) % 3, NONE);
        }
        x.label(15, WEAK);
        due.is("able in none", x.parts(0), 1);
        x.move(0, 3, 15);
        due.is("able in one of three", x.parts(0), 1);
        x.move(2, 3, 15);
        due.is("able in all but one", x.parts(0), 1);
        x.move(1, 3, 15);
        due.is("able in all", x.parts(0), 0);
        FairLoops y = leftBy(0);
        y.label(0, WEAK);
        due.is("able in all of one", y.parts(0), 0);
        FairLoops z = Graphs.with(1, 1, 0);
        z.move(0, 1, NONE);
        z.move(1, 0, NONE);
        z.move(0, 2, 0);
        z.move(1, 2, 1);
        z.label(0, WEAK);
        z.label(1, WEAK);
        due.is("two labels, each able in one of two", z.parts(0), 1);
    }

    private static void strongAbleInAny() {
        due.about("and each strong one that is able in any of them");
        FairLoops x = Graphs.with(1, 1, 1, 0);
        for (int s = 0; s < 3; s++) {
            x.move(s, (s + 1) % 3, NONE);
        }
        x.label(15, STRONG);
        due.is("able in none", x.parts(0), 1);
        x.move(2, 3, NONE);
        x.move(3, 3, 15);
        due.is("able in a state beside the part", x.parts(0), 1);
        x.move(2, 3, 15);
        due.is("able in one of three", x.parts(0), 0);
        FairLoops ring = Graphs.ring(1, NONE);
        ring.label(0, STRONG);
        due.is("able in none of 200", ring.parts(0), 1);
        ring.move(199, 0, 0);
        due.is("able in one of 200, and it moves inside", ring.parts(0), 1);
        FairLoops way = Graphs.with(1, 1);
        way.move(0, 0, NONE);
        way.move(0, 1, 0);
        way.move(1, 1, NONE);
        way.label(0, STRONG);
        due.is("able in the one part, not in the other", way.parts(0), 1);
        partIs(way, 0, 0, 1);
    }

    private static void movesInThePart() {
        due.about("a move with this label begins and ends in the part");
        for (int kind = WEAK; kind <= STRONG; kind++) {
            FairLoops x = Graphs.with(0, 1, 1);
            x.label(15, kind);
            x.move(0, 1, 15);
            x.move(1, 1, NONE);
            due.is("begins outside, ends in the part, kind " + kind, x.parts(0), 1);
            x.move(1, 2, 15);
            due.is("begins in the part, ends outside, kind " + kind, x.parts(0), 0);
            x.move(2, 2, 15);
            due.is("begins and ends in another part, kind " + kind, x.parts(0), 1);
            partIs(x, 0, 0, 2);
            x.move(1, 1, 15);
            due.is("begins and ends in the same state, kind " + kind, x.parts(0), 2);
            x.move(2, 1, NONE);
            due.is("begins in one state, ends in the other, kind " + kind, x.parts(0), 1);
            partIs(x, 0, 0, 1, 2);
        }
        FairLoops y = Graphs.with(1, 1, 0);
        y.move(0, 1, 7);
        y.move(1, 0, NONE);
        y.move(1, 1, NONE);
        y.move(1, 2, 7);
        y.move(0, 2, 8);
        y.label(7, STRONG);
        due.is("in the larger part", y.parts(0), 1);
        partIs(y, 0, 0, 0, 1);
        y.label(8, STRONG);
        due.is("in the larger part alone, which is not fair", y.parts(0), 0);
    }

    private static void noLargerFairPart() {
        due.about("An ask's FAIR PARTS are those that are in no larger fair part");
        FairLoops x = Graphs.with(1, 1, 1, 0);
        x.move(0, 0, NONE);
        x.move(0, 1, NONE);
        x.move(1, 0, NONE);
        x.move(1, 1, NONE);
        x.move(1, 2, NONE);
        x.move(2, 1, NONE);
        due.is("the smaller ones do not count", x.parts(0), 1);
        partIs(x, 0, 0, 0, 1, 2);
        x.move(2, 3, 9);
        x.label(9, STRONG);
        due.is("the largest is not fair", x.parts(0), 1);
        partIs(x, 0, 0, 0, 1);
        x.move(0, 3, 9);
        due.is("the next is not fair, either", x.parts(0), 1);
        partIs(x, 0, 0, 1);
        x.move(1, 3, 9);
        due.is("none is fair", x.parts(0), 0);
        due.is("the largest is there all the same", x.largest(0), 3);
    }

    private static void numberedByLowest() {
        due.about("numbered by their lowest states");
        FairLoops x = Graphs.with(1, 1, 1, 1, 1, 1);
        x.move(2, 3, NONE);
        x.move(3, 2, NONE);
        x.move(0, 4, NONE);
        x.move(4, 1, NONE);
        x.move(1, 4, NONE);
        x.move(0, 2, NONE);
        x.move(0, 5, NONE);
        x.move(5, 0, NONE);
        due.is("three", x.parts(0), 3);
        partIs(x, 0, 0, 0, 5);
        partIs(x, 0, 1, 1, 4);
        partIs(x, 0, 2, 2, 3);
    }

    private static void noCommonState() {
        due.about("(Two of them have no common state.)");
        FairLoops x = Graphs.with(1, 1, 1);
        x.move(0, 1, NONE);
        x.move(1, 0, 7);
        x.move(1, 2, NONE);
        x.move(2, 1, 8);
        x.label(7, STRONG);
        x.label(8, STRONG);
        due.is("two rings with a common state are one", x.parts(0), 1);
        partIs(x, 0, 0, 0, 1, 2);
    }

    private static void deadEnds() {
        due.about("A DEAD END of an ask is one of its states that is no end, from which no move begins.");
        FairLoops x = new FairLoops();
        x.state(1, false);
        x.state(1, true);
        x.state(0, false);
        due.is("the first one, without any move", x.dead(0, 0), 0);
        x.move(0, 1, NONE);
        due.refuses("an end", INDEX, () -> x.dead(0, 0));
        x.move(0, 2, NONE);
        due.refuses("not one of its states", INDEX, () -> x.dead(0, 0));
        FairLoops y = Graphs.with(1, 1, 0);
        y.move(0, 1, NONE);
        due.is("a move ends there, none begins", y.dead(0, 0), 1);
        y.move(1, 2, NONE);
        due.refuses("a move begins there, though none of the ask's", INDEX, () -> y.dead(0, 0));
        FairLoops z = Graphs.with(1);
        z.move(0, 0, NONE);
        due.refuses("a move begins there that ends there", INDEX, () -> z.dead(0, 0));
    }

    private static void liveAsks() {
        due.about("An ask is LIVE, when it has no fair parts and no dead ends.");
        due.is("no states at all", new FairLoops().live(0), true);
        FairLoops x = Graphs.with(1, 1, 0);
        x.move(0, 1, NONE);
        due.is("a dead end, no fair part", x.live(0), false);
        x.move(0, 0, NONE);
        due.is("a dead end and a fair part", x.live(0), false);
        x.move(1, 2, NONE);
        due.is("a fair part, no dead end", x.live(0), false);
        x.move(0, 2, 0);
        x.label(0, WEAK);
        due.is("neither, but a part that is not fair", x.live(0), true);
    }

    private static void waitsOneBehindTheOther() {
        due.about("WAITS of an ask are rows of its moves, one behind the other.");
        FairLoops x = Graphs.with(1, 1, 0, 1, 1, 1);
        due.is("no moves", x.longest(0), 0);
        x.move(0, 1, NONE);
        x.move(1, 2, NONE);
        x.move(2, 3, NONE);
        x.move(3, 4, NONE);
        due.is("two moves, not one behind the other", x.longest(0), 1);
        x.move(0, 5, NONE);
        due.is("two moves side by side", x.longest(0), 1);
        x.move(4, 5, NONE);
        due.is("two moves, one behind the other", x.longest(0), 2);
        due.is("199 moves, one behind the other", Graphs.line(1).longest(0), 199);
    }

    private static void noRanksBesideAPart() {
        due.about("RANKS: where there is a part (fair or not) of an ask there are none");
        FairLoops x = Graphs.with(3, 1, 1);
        x.move(0, 1, NONE);
        x.move(2, 2, NONE);
        due.is("a part that is not reached", x.rank(0, 0), 1);
        x.move(0, 2, 0);
        for (int s = 0; s < 3; s++) {
            due.is("beside a fair part: state " + s, x.rank(0, s), NONE);
        }
        due.is("a fair part of another ask", x.rank(1, 0), 0);
        x.move(2, 1, 1);
        x.label(1, STRONG);
        due.is("no fair part", x.parts(0), 0);
        for (int s = 0; s < 3; s++) {
            due.is("beside a part that is not fair: state " + s, x.rank(0, s), NONE);
        }
    }

    private static void ranksFall() {
        due.about("else a state's rank is how many moves the longest wait from it on has"
                + " (so each of its moves leads to a state of a lower rank)");
        due.is("one state", Graphs.with(1).rank(0, 0), 0);
        FairLoops x = Graphs.line(1);
        for (int s = 0; s < 100; s++) {
            due.is("in line: state " + s, x.rank(0, s), 199 - s);
        }
        due.is("in line: the last one", x.rank(0, 199), 0);
        FairLoops y = Graphs.with(1, 1, 1, 1);
        y.move(0, 3, NONE);
        y.move(2, 3, NONE);
        y.move(1, 2, NONE);
        y.move(0, 1, NONE);
        y.move(0, 2, NONE);
        for (int s = 0; s < 4; s++) {
            due.is("the longest of several waits: state " + s, y.rank(0, s), 3 - s);
        }
    }

    private static void shortestRow() {
        due.about("A ROW to a state is a shortest row of moves from the first state to it");
        FairLoops x = Graphs.with(0, 0, 0);
        x.move(0, 0, NONE);
        due.is("to the first one: no move at all", x.row(0, 0), NONE);
        x.move(0, 1, NONE);
        x.move(1, 2, NONE);
        x.move(1, 0, NONE);
        due.is("to the first one: not round a ring, either", x.row(0, 0), NONE);
        due.is("by two moves", x.row(2, 0), 1);
        due.is("by two moves", x.row(2, 1), 2);
        x.move(0, 2, NONE);
        due.is("by one move, with a higher number", x.row(2, 0), 4);
        due.is("by one move: behind it", x.row(2, 1), NONE);
    }

    /** Nine moves to nowhere new come first, for as texts 10 would go before 9. */
    private static void firstRowAsWords() {
        due.about("of these the first one as words go by moves' numbers");
        FairLoops x = Graphs.with(0, 0, 0, 0);
        for (int m = 0; m < 9; m++) {
            x.move(0, 0, NONE);
        }
        due.is("number", x.move(0, 2, NONE), 9);
        due.is("number", x.move(0, 1, NONE), 10);
        due.is("number", x.move(1, 3, NONE), 11);
        due.is("number", x.move(2, 3, NONE), 12);
        due.is("number", x.move(2, 3, NONE), 13);
        due.is("9 12 before 10 11: the first", x.row(3, 0), 9);
        due.is("9 12 before 10 11 and 9 13: the second", x.row(3, 1), 12);
        due.is("behind it", x.row(3, 2), NONE);
    }

    private static void firstExceptionTold() {
        due.about("Of several exceptions the first one told is thrown.");
        FairLoops full = Graphs.full(1);
        due.refuses("state: wrong asks, and there are 200", ARGUMENT, () -> full.state(256, false));
        FairLoops x = Graphs.with(1);
        due.refuses("label: no such label, wrong how", INDEX, () -> x.label(16, 3));
        due.refuses("label: no such label, wrong how", INDEX, () -> x.label(-1, -1));
        due.refuses("part: wrong ask, none there", ARGUMENT, () -> x.part(8, 0, 0));
        due.refuses("dead: wrong ask, none there", ARGUMENT, () -> x.dead(8, 1));
        due.refuses("rank: wrong ask, no such state", ARGUMENT, () -> x.rank(8, 1));
    }

    /** 32 and its like would be right asks for a shift that goes round. */
    private static void wrongAsks() {
        due.about("For all calls with an ask: IllegalArgumentException (first), when it is not 0 .. 7.");
        FairLoops[] graphs = {new FairLoops(), Graphs.with(255), Graphs.ring(255, 0)};
        int[] wrong = {-1, 8, 32, -32, 256, LOWEST, HIGHEST};
        for (FairLoops x : graphs) {
            for (int ask : wrong) {
                due.refuses("live(" + ask + ")", ARGUMENT, () -> x.live(ask) ? 1 : 0);
                due.refuses("parts(" + ask + ")", ARGUMENT, () -> x.parts(ask));
                due.refuses("part(" + ask + ", 0, 0)", ARGUMENT, () -> x.part(ask, 0, 0));
                due.refuses("part(" + ask + ", -1, -1)", ARGUMENT, () -> x.part(ask, -1, -1));
                due.refuses("dead(" + ask + ", 0)", ARGUMENT, () -> x.dead(ask, 0));
                due.refuses("dead(" + ask + ", -1)", ARGUMENT, () -> x.dead(ask, -1));
                due.refuses("longest(" + ask + ")", ARGUMENT, () -> x.longest(ask));
                due.refuses("rank(" + ask + ", 0)", ARGUMENT, () -> x.rank(ask, 0));
                due.refuses("rank(" + ask + ", 200)", ARGUMENT, () -> x.rank(ask, 200));
                due.refuses("largest(" + ask + ")", ARGUMENT, () -> x.largest(ask));
            }
        }
    }

    private static void rightAsks() {
        due.about("For all calls with an ask: IllegalArgumentException (first), when it is not 0 .. 7.");
        FairLoops x = Graphs.with(255, 255);
        x.move(0, 0, NONE);
        x.move(0, 1, NONE);
        for (int ask = 0; ask <= 7; ask++) {
            due.is("live(" + ask + ")", x.live(ask), false);
            due.is("parts(" + ask + ")", x.parts(ask), 1);
            due.is("part(" + ask + ", 0, 0)", x.part(ask, 0, 0), 0);
            due.is("dead(" + ask + ", 0)", x.dead(ask, 0), 1);
            due.is("longest(" + ask + ")", x.longest(ask), NONE);
            due.is("rank(" + ask + ", 1)", x.rank(ask, 1), NONE);
            due.is("largest(" + ask + ")", x.largest(ask), 1);
        }
    }

    private static void nothingThere() {
        due.about("`NONE = -1`: Nothing there.");
        due.is("NONE", FairLoops.NONE, -1);
        FairLoops x = Graphs.with(1, 0);
        x.move(0, 0, -1);
        x.move(0, 1, -1);
        x.label(15, STRONG);
        due.is("label -1 is none", x.parts(0), 1);
        due.is("nothing to be told", x.count(6), -1);
        due.is("no move there", x.row(0, 0), -1);
    }
}
