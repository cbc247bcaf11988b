/** Graphs as large as they may be, and as many calls. */
public final class LimitsTest {
    private static final int NONE = FairLoops.NONE;
    private static final int STRONG = 2;
    private static final int STATES = Graphs.STATES;
    private static final Due due = new Due();

    public static void main(String[] args) {
        longPath();
        longRing();
        manyParts();
        strongLabelsPeelOneByOne();
        waysFannedOut();
        moreMovesThanCallsAllow();
        due.end();
    }

    /** Told from the last state to the first, so that numbers and ways run against one another. */
    private static void longPath() {
        FairLoops x = Graphs.full(255);
        for (int s = STATES - 2; s >= 0; s--) {
            x.move(s, s + 1, s % 16);
        }
        due.is("path: reached", x.reached(), STATES);
        due.is("path: longest", x.longest(0), STATES - 1);
        due.is("path: parts", x.parts(0), 0);
        due.is("path: largest", x.largest(0), 0);
        due.is("path: dead", x.dead(7, 0), STATES - 1);
        due.is("path: live asks", x.count(5), 0);
        due.is("path: row begins", x.row(STATES - 1, 0), STATES - 2);
        due.is("path: row ends", x.row(STATES - 1, STATES - 2), 0);
        due.is("path: behind the row", x.row(STATES - 1, STATES - 1), NONE);
        for (int s = 0; s < STATES; s += 7) {
            due.is("path: rank", x.rank(3, s), STATES - 1 - s);
        }
    }

    private static void longRing() {
        FairLoops x = Graphs.full(128);
        for (int s = 0; s < STATES; s++) {
            x.move(s, (s + 1) % STATES, 15);
        }
        due.is("ring: largest", x.largest(7), STATES);
        due.is("ring: longest", x.longest(7), NONE);
        due.is("ring: parts", x.parts(7), 1);
        due.is("ring: its last", x.part(7, 0, STATES - 1), STATES - 1);
        due.refuses("ring: behind its last", IndexOutOfBoundsException.class, () -> x.part(7, 0, STATES));
        due.refuses("ring: no second part", IndexOutOfBoundsException.class, () -> x.part(7, 1, 0));
        due.refuses("ring: no dead end", IndexOutOfBoundsException.class, () -> x.dead(7, 0));
        due.is("ring: live asks", x.count(5), 7);
        x.label(15, STRONG);
        due.is("ring: fair", x.parts(7), 1);
        x.move(100, 3, 14);
        x.label(14, STRONG);
        due.is("ring: fair with a way back", x.parts(7), 1);
        due.is("ring: rank", x.rank(7, 0), NONE);
    }

    private static void manyParts() {
        FairLoops x = Graphs.full(1);
        for (int s = 1; s < 100; s++) {
            x.move(0, s, NONE);
        }
        for (int s = 0; s < STATES; s++) {
            x.move(s, s, 0);
        }
        due.is("many: reached", x.reached(), 100);
        due.is("many: just the reached ones", x.parts(0), 100);
        due.is("many: the last", x.part(0, 99, 0), 99);
        due.is("many: largest", x.largest(0), 1);
    }

    /**
     * A chain there and back, where label s leads back from s + 1 to s, and label 0 out of the ask's
     * states. So each strong label is missed only when the state before has been dropped.
     */
    private static void strongLabelsPeelOneByOne() {
        FairLoops x = new FairLoops();
        x.state(0, true);
        for (int s = 1; s <= 18; s++) {
            x.state(1, false);
        }
        x.move(0, 1, NONE);
        x.move(1, 0, 0);
        for (int s = 1; s < 18; s++) {
            x.move(s, s + 1, NONE);
            x.move(s + 1, s, s < 16 ? s : NONE);
        }
        x.move(18, 18, NONE);
        for (int label = 0; label < 16; label++) {
            due.is("peel: starts with", x.part(0, 0, 0), label == 0 ? 1 : label + 1);
            due.is("peel: one part", x.parts(0), 1);
            x.label(label, STRONG);
        }
        due.is("peel: one part", x.parts(0), 1);
        due.is("peel: the rest", x.part(0, 0, 0), 17);
        due.is("peel: the rest", x.part(0, 0, 1), 18);
        x.label(0, 0);
        due.is("peel: nothing is missed now", x.part(0, 0, 17), 18);
        due.is("peel: largest stays", x.largest(0), 18);
    }

    private static void waysFannedOut() {
        FairLoops x = Graphs.full(1);
        int moves = 0;
        for (int s = STATES - 1; s > 0; s--) {
            due.is("fan: number", x.move(0, s, NONE), moves);
            moves++;
        }
        for (int s = 1; s <= 80; s++) {
            due.is("fan: number", x.move(s, s + 1, NONE), moves);
            moves++;
        }
        due.is("fan: longest", x.longest(0), 81);
        due.is("fan: row", x.row(80, 0), STATES - 1 - 80);
        due.is("fan: behind the row", x.row(80, 1), NONE);
        due.is("fan: dead", x.dead(0, 0), 81);
        due.is("fan: last dead", x.dead(0, STATES - 82), STATES - 1);
    }

    /** 600 moves are more than 512 calls can make; the limit is kept all the same. */
    private static void moreMovesThanCallsAllow() {
        FairLoops x = new FairLoops();
        x.state(1, false);
        for (int m = 0; m < 600; m++) {
            due.is("many moves: number", x.move(0, 0, m % 16), m);
        }
        due.refuses("move 600", UnsupportedOperationException.class, () -> x.move(0, 0, 0));
        due.refuses("wrong label before full", IllegalArgumentException.class, () -> x.move(0, 0, 16));
        due.refuses("wrong state before full", IllegalArgumentException.class, () -> x.move(0, 1, 0));
        due.is("many moves: all there", x.count(1), 600);
        due.is("many moves: part", x.parts(0), 1);
    }
}
