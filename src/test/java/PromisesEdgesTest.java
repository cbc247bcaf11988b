/**
 * The boundary cases of the document's promises 1 to 14: each sentence that names one has a test of
 * its own, which names the sentence in the document's words.
 */
public final class PromisesEdgesTest {
    private static final int NONE = FairLoops.NONE;
    private static final int FREE = 0;
    private static final int WEAK = 1;
    private static final int STRONG = 2;
    private static final int LOWEST = Integer.MIN_VALUE;
    private static final int HIGHEST = Integer.MAX_VALUE;
    private static final Class<IllegalArgumentException> ARGUMENT = IllegalArgumentException.class;
    private static final Class<IndexOutOfBoundsException> INDEX = IndexOutOfBoundsException.class;
    private static final Class<UnsupportedOperationException> UNSUPPORTED =
            UnsupportedOperationException.class;

    private static final Due due = new Due();

    public static void main(String[] args) {
        noStatesNoMoves();
        stateNumbers();
        stateWrongAsks();
        stateWhenThereAre200();
        moveNumbers();
        moveWithoutSuchStates();
        moveWithoutSuchLabel();
        moveWhenThereAre600();
        labelWhatItWas();
        labelNoSuchLabel();
        labelWrongHow();
        reachedNoneAndAll();
        liveWithoutStates();
        partsNoneAndMany();
        partByNumber();
        partWhenThereIsNone();
        deadByNumber();
        deadWhenThereIsNone();
        longestOfWaits();
        longestAsOneLikes();
        longestWithoutStates();
        rankNone();
        rankNoSuchState();
        rowBehindItsLast();
        rowNoSuchStateOrMove();
        largestFairOrNot();
        largestWithout();
        countEach();
        countAnotherWhat();
        refusedCallsChangeNothing();
        questionsChangeNothing();
        due.end();
    }

    private static void noStatesNoMoves() {
        due.about("`FairLoops()`: No states, no moves.");
        FairLoops x = new FairLoops();
        due.is("states", x.count(0), 0);
        due.is("moves", x.count(1), 0);
        due.is("ends", x.count(2), 0);
        due.is("weak labels", x.count(3), 0);
        due.is("strong labels", x.count(4), 0);
        due.is("live asks", x.count(5), 8);
        due.is("reached", x.reached(), 0);
        for (int a = 0; a < 8; a++) {
            int ask = a;
            due.is("live(" + ask + ")", x.live(ask), true);
            due.is("parts(" + ask + ")", x.parts(ask), 0);
            due.is("longest(" + ask + ")", x.longest(ask), 0);
            due.is("largest(" + ask + ")", x.largest(ask), 0);
            due.refuses("part(" + ask + ", 0, 0)", INDEX, () -> x.part(ask, 0, 0));
            due.refuses("dead(" + ask + ", 0)", INDEX, () -> x.dead(ask, 0));
            due.refuses("rank(" + ask + ", 0)", INDEX, () -> x.rank(ask, 0));
        }
        due.refuses("row(0, 0)", INDEX, () -> x.row(0, 0));
        due.refuses("move(0, 0, NONE)", ARGUMENT, () -> x.move(0, 0, NONE));
        due.is("the first state", x.state(0, false), 0);
        due.is("the first move", x.move(0, 0, NONE), 0);
    }

    private static void stateNumbers() {
        due.about("A state more (asks as bits): its number.");
        FairLoops x = new FairLoops();
        for (int s = 0; s < 200; s++) {
            due.is("number", x.state(s + 56, s % 2 == 0), s);
        }
        due.is("states", x.count(0), 200);
        due.is("ends", x.count(2), 100);
    }

    private static void stateWrongAsks() {
        due.about("IllegalArgumentException, when asks are not 0 .. 255");
        FairLoops x = new FairLoops();
        int[] wrong = {-1, 256, 257, 511, -255, -256, LOWEST, HIGHEST};
        for (int asks : wrong) {
            due.refuses("state(" + asks + ", false)", ARGUMENT, () -> x.state(asks, false));
            due.refuses("state(" + asks + ", true)", ARGUMENT, () -> x.state(asks, true));
        }
        due.is("refused ones are not there", x.count(0), 0);
        due.is("refused ones are no ends", x.count(2), 0);
        due.is("state(0, false)", x.state(0, false), 0);
        due.is("state(255, false)", x.state(255, false), 1);
    }

    private static void stateWhenThereAre200() {
        due.about("UnsupportedOperationException, when there are 200");
        FairLoops x = new FairLoops();
        for (int s = 0; s < 199; s++) {
            x.state(0, false);
        }
        due.refuses("a refused one is not of the 200", ARGUMENT, () -> x.state(256, false));
        due.is("when there are 199", x.state(255, true), 199);
        due.refuses("when there are 200", UNSUPPORTED, () -> x.state(0, false));
        due.refuses("when there are 200, an end", UNSUPPORTED, () -> x.state(255, true));
        due.refuses("when there are 200, with wrong asks", ARGUMENT, () -> x.state(-1, true));
        due.is("states", x.count(0), 200);
        due.is("ends", x.count(2), 1);
        due.is("a move to the last one", x.move(0, 199, 15), 0);
        due.is("it is reached", x.reached(), 2);
        due.is("it waits there", x.rank(7, 199), 0);
        due.is("it is an end", x.live(7), true);
    }

    private static void moveNumbers() {
        due.about("A move more: its number.");
        FairLoops x = Graphs.with(1, 1);
        for (int m = 0; m < 500; m++) {
            due.is("number", x.move(m % 2, m / 2 % 2, m % 17 - 1), m);
        }
        due.is("moves", x.count(1), 500);
    }

    private static void moveWithoutSuchStates() {
        due.about("IllegalArgumentException, when there are no such states");
        FairLoops x = new FairLoops();
        due.refuses("no states at all", ARGUMENT, () -> x.move(0, 0, 0));
        x.state(1, false);
        x.state(1, false);
        int[] wrong = {-1, 2, 199, 200, LOWEST, HIGHEST};
        for (int s : wrong) {
            due.refuses("move(" + s + ", 0, 0)", ARGUMENT, () -> x.move(s, 0, 0));
            due.refuses("move(1, " + s + ", NONE)", ARGUMENT, () -> x.move(1, s, NONE));
            due.refuses("move(" + s + ", " + s + ", 15)", ARGUMENT, () -> x.move(s, s, 15));
        }
        due.is("refused ones are not there", x.count(1), 0);
        due.is("from the last one to the first", x.move(1, 0, 0), 0);
        due.is("from the first one to the last", x.move(0, 1, 0), 1);
        FairLoops full = Graphs.full(1);
        due.refuses("from state 200", ARGUMENT, () -> full.move(200, 199, 0));
        due.refuses("to state 200", ARGUMENT, () -> full.move(199, 200, 0));
        due.is("state 199", full.move(199, 199, 0), 0);
    }

    private static void moveWithoutSuchLabel() {
        due.about("or there is no such label (and it is not NONE)");
        FairLoops x = Graphs.with(1);
        int[] wrong = {-2, 16, 17, 31, 32, -16, LOWEST, HIGHEST};
        for (int label : wrong) {
            due.refuses("move(0, 0, " + label + ")", ARGUMENT, () -> x.move(0, 0, label));
        }
        due.is("refused ones are not there", x.count(1), 0);
        due.is("refused ones do not go round", x.parts(0), 0);
        for (int label = NONE; label < 16; label++) {
            due.is("move(0, 0, " + label + ")", x.move(0, 0, label), label + 1);
        }
    }

    /** 512 calls make no 600 moves: more calls than an object is used for, to see the limit at all. */
    private static void moveWhenThereAre600() {
        due.about("UnsupportedOperationException, when there are 600");
        FairLoops x = Graphs.with(1, 1);
        for (int m = 0; m < 599; m++) {
            x.move(0, 0, NONE);
        }
        due.refuses("a refused one is not of the 600", ARGUMENT, () -> x.move(0, 2, 0));
        due.is("when there are 599", x.move(0, 1, 15), 599);
        due.refuses("when there are 600", UNSUPPORTED, () -> x.move(0, 1, 15));
        due.refuses("when there are 600, without label", UNSUPPORTED, () -> x.move(1, 0, NONE));
        due.refuses("when there are 600, no such state", ARGUMENT, () -> x.move(0, 2, 0));
        due.refuses("when there are 600, no such label", ARGUMENT, () -> x.move(0, 1, 16));
        due.is("moves", x.count(1), 600);
        due.is("the last one leads there", x.row(1, 0), 599);
        due.is("the refused one does not lead back", x.largest(0), 1);
    }

    private static void labelWhatItWas() {
        due.about("What a label is: 0 .. 2; what it was.");
        FairLoops x = new FairLoops();
        for (int label = 0; label < 16; label++) {
            due.is("free at first", x.label(label, WEAK), FREE);
            due.is("weak before", x.label(label, WEAK), WEAK);
            due.is("weak again before", x.label(label, STRONG), WEAK);
            due.is("strong before", x.label(label, STRONG), STRONG);
            due.is("strong again before", x.label(label, FREE), STRONG);
            due.is("free before", x.label(label, label % 3), FREE);
        }
        for (int label = 0; label < 16; label++) {
            due.is("each label is its own: " + label, x.label(label, FREE), label % 3);
        }
    }

    private static void labelNoSuchLabel() {
        due.about("IndexOutOfBoundsException, when there is no such label");
        FairLoops x = new FairLoops();
        int[] wrong = {NONE, 16, 17, 32, -16, LOWEST, HIGHEST};
        for (int label : wrong) {
            for (int how = -1; how <= 3; how++) {
                int kind = how;
                due.refuses("label(" + label + ", " + kind + ")", INDEX, () -> x.label(label, kind));
            }
        }
        due.is("none became weak", x.count(3), 0);
        due.is("none became strong", x.count(4), 0);
        due.is("label(0, 1)", x.label(0, WEAK), FREE);
        due.is("label(15, 2)", x.label(15, STRONG), FREE);
    }

    private static void labelWrongHow() {
        due.about("IllegalArgumentException, when how is none of these");
        FairLoops x = new FairLoops();
        x.label(0, STRONG);
        x.label(15, WEAK);
        int[] wrong = {-1, 3, 4, LOWEST, HIGHEST};
        for (int how : wrong) {
            due.refuses("label(0, " + how + ")", ARGUMENT, () -> x.label(0, how));
            due.refuses("label(15, " + how + ")", ARGUMENT, () -> x.label(15, how));
        }
        due.is("label 0 is as it was", x.label(0, FREE), STRONG);
        due.is("label 15 is as it was", x.label(15, FREE), WEAK);
    }

    private static void reachedNoneAndAll() {
        due.about("How many states are reached.");
        due.is("no states", new FairLoops().reached(), 0);
        due.is("200 states, no moves", Graphs.full(255).reached(), 1);
        due.is("200 states in a ring", Graphs.ring(0, NONE).reached(), 200);
        FairLoops x = Graphs.full(0);
        for (int s = 1; s <= 100; s++) {
            x.move(0, s, 0);
            due.is("one by one", x.reached(), s + 1);
        }
    }

    private static void liveWithoutStates() {
        due.about("Whether an ask is live.");
        due.is("no states", new FairLoops().live(7), true);
        due.is("no state in which it waits", Graphs.full(127).live(7), true);
        due.is("a dead end at the end of the line", Graphs.line(128).live(7), false);
        due.is("a fair part of 200 states", Graphs.ring(128, 0).live(7), false);
        FairLoops x = Graphs.line(128);
        x.move(199, 199, NONE);
        due.is("a fair part at the end of the line", x.live(7), false);
    }

    /** 170 states with a loop each: about as many parts as 512 calls can make and look at. */
    private static void partsNoneAndMany() {
        due.about("How many fair parts an ask has.");
        due.is("no states", new FairLoops().parts(7), 0);
        due.is("200 states in line", Graphs.line(128).parts(7), 0);
        due.is("200 states in a ring", Graphs.ring(128, 0).parts(7), 1);
        FairLoops x = new FairLoops();
        for (int s = 0; s < 170; s++) {
            x.state(128, false);
            x.move(s, s, NONE);
            x.move(0, s, NONE);
        }
        due.is("170 parts", x.parts(7), 170);
        due.is("the last of them", x.part(7, 169, 0), 169);
    }

    private static void partByNumber() {
        due.about("The i-th state, by number, of an ask's k-th fair part.");
        FairLoops x = Graphs.ring(128, 0);
        for (int i = 0; i < 100; i++) {
            due.is("part(7, 0, " + i + ")", x.part(7, 0, i), i);
        }
        due.is("its last", x.part(7, 0, 199), 199);
        FairLoops y = Graphs.with(0, 1, 1, 1, 1);
        y.move(0, 4, NONE);
        y.move(4, 2, NONE);
        y.move(2, 4, NONE);
        y.move(0, 3, NONE);
        y.move(3, 1, NONE);
        y.move(1, 3, NONE);
        due.is("part(0, 0, 0)", y.part(0, 0, 0), 1);
        due.is("part(0, 0, 1)", y.part(0, 0, 1), 3);
        due.is("part(0, 1, 0)", y.part(0, 1, 0), 2);
        due.is("part(0, 1, 1)", y.part(0, 1, 1), 4);
    }

    private static void partWhenThereIsNone() {
        due.about("of an ask's k-th fair part. IndexOutOfBoundsException, when there is none.");
        FairLoops none = new FairLoops();
        due.refuses("no states", INDEX, () -> none.part(0, 0, 0));
        FairLoops x = Graphs.with(1, 1, 0);
        due.refuses("no part", INDEX, () -> x.part(0, 0, 0));
        x.move(0, 0, NONE);
        x.move(0, 1, NONE);
        x.move(1, 1, NONE);
        int[] wrong = {-1, 2, 200, 600, LOWEST, HIGHEST};
        for (int n : wrong) {
            due.refuses("part(0, " + n + ", 0)", INDEX, () -> x.part(0, n, 0));
            due.refuses("part(0, 0, " + n + ")", INDEX, () -> x.part(0, 0, n));
            due.refuses("part(0, " + n + ", " + n + ")", INDEX, () -> x.part(0, n, n));
        }
        due.refuses("behind the last state", INDEX, () -> x.part(0, 1, 1));
        due.refuses("of an ask without states", INDEX, () -> x.part(1, 0, 0));
        due.is("the last part's last state", x.part(0, 1, 0), 1);
        x.move(1, 2, 0);
        x.label(0, WEAK);
        due.refuses("the second one is not fair", INDEX, () -> x.part(0, 1, 0));
        FairLoops ring = Graphs.ring(1, NONE);
        due.refuses("state 200 of 200", INDEX, () -> ring.part(0, 0, 200));
        due.refuses("the part behind one of 200", INDEX, () -> ring.part(0, 1, 0));
    }

    private static void deadByNumber() {
        due.about("The k-th dead end of an ask, by number.");
        due.is("the first state", Graphs.with(128).dead(7, 0), 0);
        due.is("the last state", Graphs.line(128).dead(7, 0), 199);
        FairLoops x = Graphs.full(128);
        for (int s = 199; s > 0; s--) {
            x.move(0, s, NONE);
        }
        for (int k = 0; k < 100; k++) {
            due.is("dead(7, " + k + ")", x.dead(7, k), k + 1);
        }
        due.is("the last of 199", x.dead(7, 198), 199);
    }

    private static void deadWhenThereIsNone() {
        due.about("The k-th dead end of an ask, by number. IndexOutOfBoundsException, when there is none.");
        FairLoops none = new FairLoops();
        due.refuses("no states", INDEX, () -> none.dead(0, 0));
        FairLoops x = Graphs.with(1, 1, 1);
        x.move(0, 1, NONE);
        int[] wrong = {-1, 1, 2, 200, LOWEST, HIGHEST};
        for (int k : wrong) {
            due.refuses("dead(0, " + k + ")", INDEX, () -> x.dead(0, k));
        }
        due.refuses("of an ask without states", INDEX, () -> x.dead(1, 0));
        due.is("the only one", x.dead(0, 0), 1);
        FairLoops star = Graphs.full(1);
        for (int s = 1; s < 200; s++) {
            star.move(0, s, NONE);
        }
        due.refuses("behind the last of 199", INDEX, () -> star.dead(0, 199));
        due.refuses("far behind the last of 199", INDEX, () -> star.dead(0, 200));
        FairLoops ring = Graphs.ring(1, NONE);
        due.refuses("in a ring", INDEX, () -> ring.dead(0, 0));
    }

    private static void longestOfWaits() {
        due.about("How many moves the longest wait of an ask has");
        due.is("one state", Graphs.with(128).longest(7), 0);
        due.is("200 states without moves", Graphs.full(128).longest(7), 0);
        due.is("200 states in line", Graphs.line(128).longest(7), 199);
        FairLoops x = Graphs.with(0, 1, 1, 1);
        x.move(0, 3, NONE);
        x.move(1, 2, NONE);
        due.is("a longer one that is not reached", x.longest(0), 0);
        x.move(0, 1, NONE);
        due.is("not from the first state on, but from where it waits", x.longest(0), 1);
    }

    private static void longestAsOneLikes() {
        due.about("NONE when it can be as long as one likes");
        FairLoops x = Graphs.with(1, 1, 0);
        x.move(0, 1, NONE);
        x.move(1, 1, 0);
        due.is("one state goes round", x.longest(0), NONE);
        x.move(1, 2, 1);
        x.label(1, STRONG);
        due.is("it is not fair to go round", x.parts(0), 0);
        due.is("but it can be as long as one likes", x.longest(0), NONE);
        due.is("200 states go round", Graphs.ring(128, NONE).longest(7), NONE);
        FairLoops line = Graphs.line(128);
        line.move(199, 198, NONE);
        due.is("the last two of 200 go round", line.longest(7), NONE);
    }

    private static void longestWithoutStates() {
        due.about("(or it has no states: 0)");
        due.is("no states at all", new FairLoops().longest(0), 0);
        FairLoops x = Graphs.with(1, 2);
        x.move(0, 0, NONE);
        x.move(1, 1, NONE);
        due.is("it waits nowhere", x.longest(2), 0);
        due.is("it waits where nothing is reached", x.longest(1), 0);
        due.is("200 states of other asks", Graphs.ring(127, NONE).longest(7), 0);
    }

    private static void rankNone() {
        due.about("A state's rank for an ask; NONE when it has none, or is none of its states.");
        FairLoops x = Graphs.with(1, 1, 2, 1);
        x.move(0, 1, NONE);
        x.move(0, 2, NONE);
        due.is("its first state", x.rank(0, 0), 1);
        due.is("its last state", x.rank(0, 1), 0);
        due.is("it does not wait there", x.rank(0, 2), NONE);
        due.is("not reached", x.rank(0, 3), NONE);
        due.is("it has no states", x.rank(7, 0), NONE);
        x.move(1, 1, NONE);
        due.is("there are no ranks", x.rank(0, 0), NONE);
        due.is("there are no ranks", x.rank(0, 1), NONE);
        due.is("it does not wait there, and there are none", x.rank(0, 2), NONE);
        due.is("200 states in line", Graphs.line(128).rank(7, 0), 199);
        due.is("200 states in line, the last one", Graphs.line(128).rank(7, 199), 0);
    }

    private static void rankNoSuchState() {
        due.about("or is none of its states. IndexOutOfBoundsException, when there is no such state.");
        FairLoops none = new FairLoops();
        due.refuses("no states", INDEX, () -> none.rank(0, 0));
        FairLoops x = Graphs.with(1, 0);
        int[] wrong = {-1, 2, 199, 200, LOWEST, HIGHEST};
        for (int s : wrong) {
            due.refuses("rank(0, " + s + ")", INDEX, () -> x.rank(0, s));
            due.refuses("rank(7, " + s + "), an ask without states", INDEX, () -> x.rank(7, s));
        }
        due.is("the last one is there", x.rank(0, 1), NONE);
        x.move(0, 0, NONE);
        due.refuses("where there are no ranks", INDEX, () -> x.rank(0, 2));
        FairLoops line = Graphs.line(1);
        due.refuses("state 200 of 200", INDEX, () -> line.rank(0, 200));
        due.is("state 199 of 200", line.rank(0, 199), 0);
    }

    private static void rowBehindItsLast() {
        due.about("Move i of a row to a state; NONE behind its last one, or when it is not reached.");
        FairLoops x = Graphs.line(0);
        for (int i = 0; i < 100; i++) {
            due.is("row(199, " + i + ")", x.row(199, i), i);
        }
        due.is("its last one", x.row(199, 198), 198);
        due.is("behind its last one", x.row(199, 199), NONE);
        due.is("far behind its last one", x.row(199, 600), NONE);
        due.is("as far behind as can be", x.row(199, HIGHEST), NONE);
        due.is("a row of one move", x.row(1, 0), 0);
        due.is("behind a row of one move", x.row(1, 1), NONE);
        due.is("an empty row", x.row(0, 0), NONE);
        due.is("far behind an empty row", x.row(0, HIGHEST), NONE);
        FairLoops y = Graphs.with(0, 0);
        y.move(1, 0, NONE);
        y.move(1, 1, NONE);
        due.is("not reached", y.row(1, 0), NONE);
        due.is("not reached", y.row(1, 1), NONE);
        due.is("not reached", y.row(1, HIGHEST), NONE);
    }

    private static void rowNoSuchStateOrMove() {
        due.about("IndexOutOfBoundsException, when there is no such state, or i is below 0.");
        FairLoops none = new FairLoops();
        due.refuses("no states", INDEX, () -> none.row(0, 0));
        FairLoops x = Graphs.with(1, 1, 1);
        x.move(0, 1, NONE);
        int[] wrong = {-1, 3, 199, 200, LOWEST, HIGHEST};
        for (int s : wrong) {
            due.refuses("row(" + s + ", 0)", INDEX, () -> x.row(s, 0));
            due.refuses("row(" + s + ", -1)", INDEX, () -> x.row(s, -1));
        }
        for (int s = 0; s < 3; s++) {
            int state = s;
            due.refuses("row(" + s + ", -1)", INDEX, () -> x.row(state, -1));
            due.refuses("row(" + s + ", lowest)", INDEX, () -> x.row(state, LOWEST));
        }
        due.is("row(1, 0)", x.row(1, 0), 0);
        FairLoops full = Graphs.full(0);
        due.refuses("state 200 of 200", INDEX, () -> full.row(200, 0));
        due.is("state 199 of 200", full.row(199, 0), NONE);
    }

    private static void largestFairOrNot() {
        due.about("The size of the largest part of an ask, fair or not");
        due.is("200 states", Graphs.ring(128, NONE).largest(7), 200);
        FairLoops x = Graphs.with(1, 1, 1, 0);
        x.move(0, 0, NONE);
        due.is("one state", x.largest(0), 1);
        x.move(0, 1, NONE);
        x.move(1, 2, NONE);
        x.move(2, 1, NONE);
        due.is("the larger one of two", x.largest(0), 2);
        x.move(1, 3, 0);
        x.label(0, STRONG);
        due.is("just the smaller one is fair", x.parts(0), 1);
        due.is("the larger one, though it is not fair", x.largest(0), 2);
        x.move(0, 3, 0);
        due.is("none is fair", x.parts(0), 0);
        due.is("the larger one, though none is fair", x.largest(0), 2);
    }

    private static void largestWithout() {
        due.about("The size of the largest part of an ask, fair or not; 0 without.");
        due.is("no states", new FairLoops().largest(0), 0);
        due.is("one state without a move", Graphs.with(1).largest(0), 0);
        due.is("200 states in line", Graphs.line(128).largest(7), 0);
        due.is("a ring of other asks", Graphs.ring(127, NONE).largest(7), 0);
        FairLoops x = Graphs.with(1, 1);
        x.move(1, 1, NONE);
        due.is("a loop that is not reached", x.largest(0), 0);
    }

    private static void countEach() {
        due.about("States (0), moves (1), ends (2), weak labels (3), strong ones (4), live asks (5).");
        FairLoops x = new FairLoops();
        for (int s = 0; s < 200; s++) {
            x.state(s == 0 ? 255 : 0, true);
        }
        for (int m = 0; m < 250; m++) {
            x.move(0, 1 + m % 199, NONE);
        }
        for (int label = 0; label < 16; label++) {
            x.label(label, WEAK);
        }
        due.is("states, as many as can be", x.count(0), 200);
        due.is("moves", x.count(1), 250);
        due.is("ends, all of them", x.count(2), 200);
        due.is("weak labels, all of them", x.count(3), 16);
        due.is("strong labels, none", x.count(4), 0);
        due.is("live asks, all of them", x.count(5), 8);
        x.label(0, STRONG);
        x.label(15, FREE);
        due.is("weak labels, all but two", x.count(3), 14);
        due.is("strong labels, one", x.count(4), 1);
        x.move(0, 0, NONE);
        due.is("live asks, none", x.count(5), 0);
        FairLoops y = Graphs.with(127);
        due.is("ends, none", y.count(2), 0);
        due.is("live asks, just the one that waits nowhere", y.count(5), 1);
        for (int label = 0; label < 16; label++) {
            y.label(label, STRONG);
        }
        due.is("weak labels, none", y.count(3), 0);
        due.is("strong labels, all of them", y.count(4), 16);
    }

    private static void countAnotherWhat() {
        due.about("NONE for another what.");
        FairLoops[] graphs = {new FairLoops(), Graphs.ring(255, 0)};
        int[] wrong = {-1, 6, 7, 8, 256, LOWEST, HIGHEST};
        for (FairLoops x : graphs) {
            for (int what : wrong) {
                due.is("count(" + what + ")", x.count(what), NONE);
            }
        }
    }

    /** A line of two states to a loop with a way out, so that each kind of answer is there. */
    private static FairLoops small() {
        FairLoops x = new FairLoops();
        x.state(3, false);
        x.state(1, false);
        x.state(2, false);
        x.state(4, true);
        x.move(0, 1, 0);
        x.move(1, 1, 1);
        x.move(0, 2, NONE);
        x.move(1, 3, 2);
        x.label(0, WEAK);
        x.label(15, STRONG);
        return x;
    }

    /** All that small() can be asked without being refused, in 41 calls. */
    private static String told(FairLoops x) {
        StringBuilder text = new StringBuilder();
        for (int what = 0; what < 6; what++) {
            text.append(x.count(what)).append(' ');
        }
        text.append(x.reached());
        for (int ask = 0; ask < 3; ask++) {
            text.append(" | ").append(x.live(ask)).append(' ').append(x.parts(ask));
            text.append(' ').append(x.longest(ask)).append(' ').append(x.largest(ask));
            for (int s = 0; s < 4; s++) {
                text.append(' ').append(x.rank(ask, s));
            }
        }
        text.append(" | ").append(x.part(0, 0, 0)).append(' ').append(x.dead(1, 0)).append(" |");
        for (int s = 0; s < 4; s++) {
            text.append(' ').append(x.row(s, 0)).append(' ').append(x.row(s, 1));
        }
        return text.toString();
    }

    private static final String TOLD_OF_SMALL = "4 4 1 1 1 6 4"
            + " | false 1 -1 1 -1 -1 -1 -1 | false 0 1 0 1 -1 0 -1 | true 0 0 0 -1 -1 -1 0"
            + " | 1 2 | -1 -1 0 -1 2 -1 0 3";

    private static void refusedCallsChangeNothing() {
        due.about("Nothing is promised beyond the answers and state changes described above");
        FairLoops x = small();
        due.refuses("state", ARGUMENT, () -> x.state(256, true));
        due.refuses("move from", ARGUMENT, () -> x.move(4, 0, 15));
        due.refuses("move to", ARGUMENT, () -> x.move(2, 4, 15));
        due.refuses("move with", ARGUMENT, () -> x.move(2, 0, 16));
        due.refuses("label", INDEX, () -> x.label(16, STRONG));
        due.refuses("label how", ARGUMENT, () -> x.label(0, 3));
        due.refuses("live", ARGUMENT, () -> x.live(8) ? 1 : 0);
        due.refuses("parts", ARGUMENT, () -> x.parts(8));
        due.refuses("part", INDEX, () -> x.part(0, 1, 0));
        due.refuses("dead", INDEX, () -> x.dead(0, 0));
        due.refuses("longest", ARGUMENT, () -> x.longest(8));
        due.refuses("rank", INDEX, () -> x.rank(0, 4));
        due.refuses("row", INDEX, () -> x.row(0, -1));
        due.refuses("largest", ARGUMENT, () -> x.largest(8));
        due.is("count", x.count(6), NONE);
        due.same("after calls that were refused", told(x), TOLD_OF_SMALL);
        due.is("the next state", x.state(0, false), 4);
        due.is("the next move", x.move(0, 0, NONE), 4);
    }

    private static void questionsChangeNothing() {
        due.about("Nothing is promised beyond the answers and state changes described above");
        FairLoops x = small();
        for (int again = 0; again < 5; again++) {
            due.same("asked again", told(x), TOLD_OF_SMALL);
        }
        FairLoops other = Graphs.ring(255, 0);
        due.is("another object", other.parts(0), 1);
        due.same("after calls of another object", told(x), TOLD_OF_SMALL);
    }
}
