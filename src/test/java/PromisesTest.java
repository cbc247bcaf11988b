/** The promises one by one: ordinary inputs, the edges that the document names, wrong inputs. */
public final class PromisesTest {
    private static final int NONE = FairLoops.NONE;
    private static final int WEAK = 1;
    private static final int STRONG = 2;
    private static final Class<IllegalArgumentException> ARGUMENT = IllegalArgumentException.class;
    private static final Class<IndexOutOfBoundsException> INDEX = IndexOutOfBoundsException.class;
    private static final Class<UnsupportedOperationException> UNSUPPORTED =
            UnsupportedOperationException.class;

    private static final Due due = new Due();

    public static void main(String[] args) {
        newObject();
        twoObjectsAreApart();
        states();
        moves();
        labels();
        reached();
        live();
        partsWithoutFairness();
        partsWeak();
        partsStrong();
        partsStrongSplitsAgain();
        partsWeakOfSmallerPart();
        partsLookAtMovesThatLeave();
        partNumbers();
        dead();
        longestAndRank();
        ranksNeedNoPartAtAll();
        rows();
        rowsAsWords();
        largest();
        counts();
        wrongAsks();
        refusedCallsChangeNothing();
        answersFollowChanges();
        due.end();
    }

    private static void partIs(String what, FairLoops x, int ask, int k, int... want) {
        for (int i = 0; i < want.length; i++) {
            due.is(what + ": part(" + ask + ", " + k + ", " + i + ")", x.part(ask, k, i), want[i]);
        }
        due.refuses(what + ": part behind the last", INDEX, () -> x.part(ask, k, want.length));
    }

    private static void newObject() {
        due.is("NONE", FairLoops.NONE, -1);
        FairLoops x = new FairLoops();
        int[] counts = {0, 0, 0, 0, 0, 8};
        for (int what = 0; what < counts.length; what++) {
            due.is("new: count " + what, x.count(what), counts[what]);
        }
        due.is("new: reached", x.reached(), 0);
        for (int a = 0; a < 8; a++) {
            int ask = a;
            due.is("new: live", x.live(ask), true);
            due.is("new: parts", x.parts(ask), 0);
            due.is("new: longest", x.longest(ask), 0);
            due.is("new: largest", x.largest(ask), 0);
            due.refuses("new: part", INDEX, () -> x.part(ask, 0, 0));
            due.refuses("new: dead", INDEX, () -> x.dead(ask, 0));
            due.refuses("new: rank", INDEX, () -> x.rank(ask, 0));
        }
        due.refuses("new: row", INDEX, () -> x.row(0, 0));
        due.refuses("new: move", ARGUMENT, () -> x.move(0, 0, NONE));
        for (int label = 0; label < 16; label++) {
            due.is("new: label is free", x.label(label, 0), 0);
        }
    }

    private static void twoObjectsAreApart() {
        FairLoops x = Graphs.with(1, 1);
        x.label(3, STRONG);
        x.move(0, 1, 3);
        FairLoops y = new FairLoops();
        due.is("apart: states", y.count(0), 0);
        due.is("apart: label", y.label(3, 0), 0);
        due.is("apart: first number", y.state(0, false), 0);
        due.is("apart: other has its own", x.count(0), 2);
    }

    private static void states() {
        FairLoops x = new FairLoops();
        due.refuses("asks -1", ARGUMENT, () -> x.state(-1, false));
        due.refuses("asks 256", ARGUMENT, () -> x.state(256, true));
        due.refuses("asks lowest int", ARGUMENT, () -> x.state(Integer.MIN_VALUE, false));
        due.refuses("asks highest int", ARGUMENT, () -> x.state(Integer.MAX_VALUE, false));
        due.is("asks 0", x.state(0, false), 0);
        due.is("asks 255", x.state(255, true), 1);
        for (int n = 2; n < 200; n++) {
            due.is("state number", x.state(n & 255, false), n);
        }
        due.refuses("state 200", UNSUPPORTED, () -> x.state(0, false));
        due.refuses("wrong asks before full", ARGUMENT, () -> x.state(256, false));
        due.is("200 states", x.count(0), 200);
        due.is("last state can be used", x.move(199, 199, 15), 0);
        due.refuses("no state 200", ARGUMENT, () -> x.move(200, 0, 0));
    }

    private static void moves() {
        FairLoops x = Graphs.with(1, 1);
        due.is("first move", x.move(0, 1, 0), 0);
        due.is("same move again", x.move(0, 1, 0), 1);
        due.is("to itself, no label", x.move(1, 1, NONE), 2);
        due.is("last label", x.move(1, 0, 15), 3);
        due.refuses("from -1", ARGUMENT, () -> x.move(-1, 0, 0));
        due.refuses("from 2", ARGUMENT, () -> x.move(2, 0, 0));
        due.refuses("to -1", ARGUMENT, () -> x.move(0, -1, 0));
        due.refuses("to 2", ARGUMENT, () -> x.move(0, 2, 0));
        due.refuses("from far off", ARGUMENT, () -> x.move(Integer.MAX_VALUE, 0, 0));
        due.refuses("label -2", ARGUMENT, () -> x.move(0, 1, -2));
        due.refuses("label 16", ARGUMENT, () -> x.move(0, 1, 16));
        due.refuses("label lowest int", ARGUMENT, () -> x.move(0, 1, Integer.MIN_VALUE));
        due.is("moves", x.count(1), 4);
    }

    private static void labels() {
        FairLoops x = new FairLoops();
        due.is("0 becomes weak", x.label(0, WEAK), 0);
        due.is("0 becomes strong", x.label(0, STRONG), 1);
        due.is("0 becomes free", x.label(0, 0), 2);
        due.is("0 was free", x.label(0, 0), 0);
        due.is("15 becomes strong", x.label(15, STRONG), 0);
        due.is("14 is its own", x.label(14, 0), 0);
        due.refuses("label -1", INDEX, () -> x.label(-1, 0));
        due.refuses("label 16", INDEX, () -> x.label(16, 0));
        due.refuses("how -1", ARGUMENT, () -> x.label(15, -1));
        due.refuses("how 3", ARGUMENT, () -> x.label(15, 3));
        due.refuses("label is told first", INDEX, () -> x.label(16, 3));
        due.is("refused how changed nothing", x.label(15, WEAK), 2);
    }

    private static void reached() {
        FairLoops x = Graphs.with(0, 0, 0, 0);
        due.is("the first one alone", x.reached(), 1);
        x.move(2, 3, NONE);
        x.move(3, 0, NONE);
        due.is("moves not from the first", x.reached(), 1);
        x.move(0, 0, NONE);
        due.is("to itself", x.reached(), 1);
        x.move(0, 2, NONE);
        due.is("two more", x.reached(), 3);
        x.move(3, 1, 4);
        due.is("all", x.reached(), 4);
    }

    private static void live() {
        FairLoops x = Graphs.with(1, 2);
        due.is("a dead end", x.live(0), false);
        due.is("not reached", x.live(1), true);
        due.is("waits nowhere", x.live(2), true);
        x.move(0, 1, 0);
        due.is("served", x.live(0), true);
        due.is("a dead end behind", x.live(1), false);
        x.move(1, 1, 1);
        due.is("goes round", x.live(1), false);
        x.move(1, 0, 2);
        due.is("free way out", x.live(1), false);
        x.label(2, WEAK);
        due.is("fair way out", x.live(1), true);
        due.is("of the other ask", x.live(0), true);
    }

    private static void partsWithoutFairness() {
        FairLoops x = Graphs.with(1, 1, 1, 1, 0);
        x.move(0, 1, NONE);
        due.is("no loop", x.parts(0), 0);
        x.move(1, 0, NONE);
        due.is("loop", x.parts(0), 1);
        x.move(2, 2, NONE);
        due.is("loop that is not reached", x.parts(0), 1);
        x.move(1, 2, NONE);
        due.is("two loops", x.parts(0), 2);
        x.move(2, 4, NONE);
        x.move(4, 0, NONE);
        due.is("joined only where it does not wait", x.parts(0), 2);
        x.move(2, 3, NONE);
        x.move(3, 1, NONE);
        partIs("joined", x, 0, 0, 0, 1, 2, 3);
        due.is("one", x.parts(0), 1);
        due.is("other ask", x.parts(1), 0);
    }

    private static void partsWeak() {
        FairLoops x = Graphs.with(1, 1, 0);
        x.move(0, 1, 0);
        x.move(1, 0, 1);
        x.move(0, 2, 2);
        x.label(2, WEAK);
        due.is("weak, able in one of two", x.parts(0), 1);
        x.move(1, 2, 2);
        due.is("weak, able in all", x.parts(0), 0);
        x.move(0, 0, 2);
        partIs("weak, moves inside", x, 0, 0, 0, 1);
    }

    private static void partsStrong() {
        FairLoops x = Graphs.with(1, 1, 0);
        x.move(0, 1, 0);
        x.move(1, 0, 1);
        x.move(0, 2, 2);
        x.label(2, STRONG);
        due.is("strong, able in one of two", x.parts(0), 0);
        x.move(1, 1, NONE);
        partIs("strong, the part without it", x, 0, 0, 1);
        x.move(1, 0, 2);
        partIs("strong, moves inside", x, 0, 0, 0, 1);
    }

    /** The ring 0 1 2 3 loses 0; then 1 and 2 lose 1, which takes the last inner move with label 6. */
    private static void partsStrongSplitsAgain() {
        FairLoops x = Graphs.with(1, 1, 1, 1, 0);
        x.move(0, 1, NONE);
        x.move(1, 2, NONE);
        x.move(2, 1, NONE);
        x.move(2, 3, NONE);
        x.move(3, 0, 6);
        x.move(3, 3, NONE);
        x.move(0, 4, 5);
        x.move(1, 4, 6);
        x.move(2, 2, NONE);
        partIs("again: free", x, 0, 0, 0, 1, 2, 3);
        x.label(5, STRONG);
        partIs("again: 5, the first", x, 0, 0, 1, 2);
        partIs("again: 5, the second", x, 0, 1, 3);
        x.label(6, STRONG);
        due.is("again: 3 is able of 6, too", x.parts(0), 1);
        partIs("again: both", x, 0, 0, 2);
        x.label(5, 0);
        partIs("again: 6 moves inside", x, 0, 0, 0, 1, 2, 3);
    }

    /** A weak label that is not able in all of a part may be so in what a strong one leaves of it. */
    private static void partsWeakOfSmallerPart() {
        FairLoops x = Graphs.with(1, 1, 0);
        x.move(0, 1, NONE);
        x.move(1, 0, NONE);
        x.move(1, 1, NONE);
        x.move(1, 2, 7);
        x.label(7, WEAK);
        partIs("smaller: weak alone", x, 0, 0, 0, 1);
        x.move(0, 2, 8);
        x.label(8, STRONG);
        due.is("smaller: both", x.parts(0), 0);
        x.label(7, 0);
        partIs("smaller: strong alone", x, 0, 0, 1);
    }

    private static void partsLookAtMovesThatLeave() {
        FairLoops x = Graphs.with(1, 1);
        x.move(0, 0, NONE);
        x.move(0, 1, 0);
        x.move(1, 1, 0);
        x.label(0, STRONG);
        due.is("leave: moves of another part do not help", x.parts(0), 1);
        partIs("leave: just the second", x, 0, 0, 1);
        x.label(0, WEAK);
        partIs("leave: weak, too", x, 0, 0, 1);
        x.label(1, STRONG);
        x.label(2, WEAK);
        partIs("leave: labels that are nowhere able", x, 0, 0, 1);
    }

    /** Found from state 0 on, the part of 3 comes first and the part of 1 last. */
    private static void partNumbers() {
        FairLoops x = Graphs.with(1, 1, 1, 1, 1);
        x.move(0, 4, NONE);
        x.move(4, 2, NONE);
        x.move(2, 4, NONE);
        x.move(2, 3, NONE);
        x.move(3, 3, NONE);
        x.move(0, 1, NONE);
        x.move(1, 1, NONE);
        due.is("numbers: three", x.parts(0), 3);
        partIs("numbers", x, 0, 0, 1);
        partIs("numbers", x, 0, 1, 2, 4);
        partIs("numbers", x, 0, 2, 3);
        due.refuses("numbers: k 3", INDEX, () -> x.part(0, 3, 0));
        due.refuses("numbers: k -1", INDEX, () -> x.part(0, -1, 0));
        due.refuses("numbers: i -1", INDEX, () -> x.part(0, 0, -1));
        due.refuses("numbers: k far off", INDEX, () -> x.part(0, Integer.MAX_VALUE, 0));
        due.refuses("numbers: i far off", INDEX, () -> x.part(0, 0, Integer.MAX_VALUE));
        due.refuses("numbers: i lowest int", INDEX, () -> x.part(0, 0, Integer.MIN_VALUE));
    }

    private static void dead() {
        FairLoops x = new FairLoops();
        x.state(3, false);
        x.state(1, true);
        x.state(3, false);
        x.state(1, false);
        x.state(1, false);
        x.state(2, false);
        due.is("dead: the first one", x.dead(0, 0), 0);
        x.move(0, 3, NONE);
        x.move(0, 1, NONE);
        x.move(0, 2, NONE);
        due.is("dead: by number", x.dead(0, 0), 2);
        due.is("dead: by number", x.dead(0, 1), 3);
        due.refuses("dead: an end, and one not reached", INDEX, () -> x.dead(0, 2));
        due.is("dead: other ask", x.dead(1, 0), 2);
        due.refuses("dead: other ask", INDEX, () -> x.dead(1, 1));
        due.refuses("dead: k -1", INDEX, () -> x.dead(0, -1));
        due.refuses("dead: k far off", INDEX, () -> x.dead(0, Integer.MAX_VALUE));
        x.move(2, 2, NONE);
        due.is("dead: a loop is no dead end", x.dead(0, 0), 3);
        x.move(3, 5, NONE);
        due.refuses("dead: nor is a move to where it does not wait", INDEX, () -> x.dead(0, 0));
        due.is("dead: behind it", x.dead(1, 0), 5);
    }

    private static void longestAndRank() {
        FairLoops x = Graphs.with(1, 1, 1, 3, 2, 1);
        due.is("longest: one state", x.longest(0), 0);
        due.is("longest: no state", x.longest(1), 0);
        due.is("rank: the first one", x.rank(0, 0), 0);
        due.is("rank: not reached", x.rank(0, 1), NONE);
        x.move(0, 3, NONE);
        due.is("longest: one move", x.longest(0), 1);
        x.move(0, 1, NONE);
        x.move(1, 2, NONE);
        x.move(2, 3, NONE);
        x.move(1, 3, NONE);
        x.move(3, 4, NONE);
        x.move(4, 0, NONE);
        x.move(5, 0, NONE);
        due.is("longest: the longer way", x.longest(0), 3);
        int[] ranks = {3, 2, 1, 0, NONE, NONE};
        for (int s = 0; s < ranks.length; s++) {
            due.is("rank of " + s, x.rank(0, s), ranks[s]);
        }
        due.is("rank of other ask", x.rank(1, 3), 1);
        due.is("rank of other ask", x.rank(1, 4), 0);
        due.is("longest of other ask", x.longest(1), 1);
        due.is("rank of an ask without states", x.rank(2, 0), NONE);
        due.refuses("rank: state -1", INDEX, () -> x.rank(0, -1));
        due.refuses("rank: state 6", INDEX, () -> x.rank(0, 6));
        due.refuses("rank: ask is told first", ARGUMENT, () -> x.rank(8, 6));
    }

    private static void ranksNeedNoPartAtAll() {
        FairLoops x = Graphs.with(1, 1, 1, 0);
        x.move(0, 1, NONE);
        x.move(2, 2, NONE);
        due.is("a loop that is not reached", x.longest(0), 1);
        due.is("a loop that is not reached: rank", x.rank(0, 0), 1);
        x.move(0, 2, NONE);
        x.move(2, 3, 0);
        x.label(0, STRONG);
        due.is("no fair part", x.parts(0), 0);
        due.is("but a part: longest", x.longest(0), NONE);
        due.is("but a part: rank on it", x.rank(0, 2), NONE);
        due.is("but a part: rank off it", x.rank(0, 1), NONE);
    }

    private static void rows() {
        FairLoops x = Graphs.with(0, 0, 0, 0, 0);
        x.move(0, 1, NONE);
        x.move(1, 2, NONE);
        x.move(2, 3, NONE);
        x.move(2, 0, NONE);
        due.is("row to the first", x.row(0, 0), NONE);
        due.is("row to 3", x.row(3, 0), 0);
        due.is("row to 3", x.row(3, 1), 1);
        due.is("row to 3", x.row(3, 2), 2);
        due.is("row to 3: behind", x.row(3, 3), NONE);
        due.is("row to 3: far behind", x.row(3, Integer.MAX_VALUE), NONE);
        due.is("row to one not reached", x.row(4, 0), NONE);
        x.move(0, 3, NONE);
        due.is("shorter row to 3", x.row(3, 0), 4);
        due.is("shorter row to 3: behind", x.row(3, 1), NONE);
        due.refuses("row: i -1", INDEX, () -> x.row(3, -1));
        due.refuses("row: i -1, not reached", INDEX, () -> x.row(4, -1));
        due.refuses("row: state 5", INDEX, () -> x.row(5, 0));
        due.refuses("row: state -1", INDEX, () -> x.row(-1, 0));
    }

    /** As words the row 0 5 comes before 1 2, though its last move has the higher number. */
    private static void rowsAsWords() {
        FairLoops x = Graphs.with(0, 0, 0, 0);
        x.move(0, 2, NONE);
        x.move(0, 1, NONE);
        x.move(1, 3, NONE);
        x.move(0, 2, NONE);
        x.move(1, 3, NONE);
        x.move(2, 3, NONE);
        due.is("words", x.row(3, 0), 0);
        due.is("words", x.row(3, 1), 5);
        due.is("words", x.row(3, 2), NONE);
        due.is("the first of two moves", x.row(2, 0), 0);
    }

    private static void largest() {
        FairLoops x = Graphs.with(1, 1, 1, 1, 1, 1);
        due.is("largest without", x.largest(0), 0);
        x.move(0, 1, NONE);
        due.is("largest without loop", x.largest(0), 0);
        x.move(1, 1, NONE);
        due.is("largest of one", x.largest(0), 1);
        x.move(1, 2, NONE);
        x.move(2, 3, NONE);
        x.move(3, 4, NONE);
        x.move(4, 2, NONE);
        due.is("largest of two", x.largest(0), 3);
        x.move(3, 5, 1);
        x.label(1, STRONG);
        due.is("fair parts", x.parts(0), 1);
        due.is("largest, fair or not", x.largest(0), 3);
        due.is("largest of other ask", x.largest(7), 0);
    }

    private static void counts() {
        FairLoops x = new FairLoops();
        x.state(0x81, true);
        x.state(0, false);
        x.state(0, true);
        x.move(0, 1, 0);
        x.label(0, WEAK);
        x.label(1, WEAK);
        x.label(2, WEAK);
        x.label(15, STRONG);
        x.label(14, STRONG);
        x.label(2, 0);
        int[] want = {3, 1, 2, 2, 2, 8};
        for (int what = 0; what < want.length; what++) {
            due.is("count " + what, x.count(what), want[what]);
        }
        x.move(0, 0, NONE);
        due.is("weak way out", x.count(5), 8);
        x.label(0, 0);
        due.is("asks 0 and 7 go round", x.count(5), 6);
        due.is("count -1", x.count(-1), NONE);
        due.is("count 6", x.count(6), NONE);
        due.is("count lowest int", x.count(Integer.MIN_VALUE), NONE);
        due.is("count highest int", x.count(Integer.MAX_VALUE), NONE);
    }

    private static void wrongAsks() {
        FairLoops x = Graphs.with(255);
        int[] wrong = {-1, 8, Integer.MIN_VALUE, Integer.MAX_VALUE};
        for (int ask : wrong) {
            due.refuses("live of " + ask, ARGUMENT, () -> x.live(ask) ? 1 : 0);
            due.refuses("parts of " + ask, ARGUMENT, () -> x.parts(ask));
            due.refuses("part of " + ask, ARGUMENT, () -> x.part(ask, -1, -1));
            due.refuses("dead of " + ask, ARGUMENT, () -> x.dead(ask, -1));
            due.refuses("longest of " + ask, ARGUMENT, () -> x.longest(ask));
            due.refuses("rank of " + ask, ARGUMENT, () -> x.rank(ask, -1));
            due.refuses("largest of " + ask, ARGUMENT, () -> x.largest(ask));
        }
        for (int ask = 0; ask < 8; ask++) {
            due.is("each ask has its bit", x.dead(ask, 0), 0);
        }
    }

    private static void refusedCallsChangeNothing() {
        FairLoops x = Graphs.with(1, 1);
        x.move(0, 1, NONE);
        due.refuses("refused state", ARGUMENT, () -> x.state(256, true));
        due.refuses("refused move", ARGUMENT, () -> x.move(1, 0, 16));
        due.refuses("refused move", ARGUMENT, () -> x.move(1, 2, 0));
        due.is("refused: states", x.count(0), 2);
        due.is("refused: moves", x.count(1), 1);
        due.is("refused: ends", x.count(2), 0);
        due.is("refused: parts", x.parts(0), 0);
        due.is("refused: dead", x.dead(0, 0), 1);
    }

    private static void answersFollowChanges() {
        FairLoops x = Graphs.with(1, 1);
        x.move(0, 1, 0);
        due.is("before: rank", x.rank(0, 0), 1);
        due.is("before: dead", x.dead(0, 0), 1);
        x.state(1, false);
        x.move(1, 2, 1);
        due.is("after a move: rank", x.rank(0, 0), 2);
        due.is("after a move: dead", x.dead(0, 0), 2);
        x.move(2, 0, 2);
        due.is("after a loop: rank", x.rank(0, 0), NONE);
        due.is("after a loop: parts", x.parts(0), 1);
        due.is("asking again", x.parts(0), 1);
        x.state(0, true);
        x.move(1, 3, 3);
        due.is("strong from now on", x.label(3, STRONG), 0);
        due.is("after a label: parts", x.parts(0), 0);
        due.is("free again", x.label(3, 0), 2);
        due.is("after a label: parts", x.parts(0), 1);
    }
}
