/** Graphs that several tests begin with. */
final class Graphs {
    static final int STATES = 200;

    private Graphs() {
    }

    /** States 0, 1, .. that are no ends, one for each of the given asks. */
    static FairLoops with(int... asks) {
        FairLoops x = new FairLoops();
        for (int bits : asks) {
            x.state(bits, false);
        }
        return x;
    }

    /** As many states as there may be, none of them an end, all with the same asks. */
    static FairLoops full(int asks) {
        FairLoops x = new FairLoops();
        for (int s = 0; s < STATES; s++) {
            x.state(asks, false);
        }
        return x;
    }

    /** All states in one ring, by moves 0 .. 199 with the given label: 400 calls. */
    static FairLoops ring(int asks, int label) {
        FairLoops x = full(asks);
        for (int s = 0; s < STATES; s++) {
            x.move(s, (s + 1) % STATES, label);
        }
        return x;
    }

    /** All states in one line, by moves 0 .. 198: 399 calls. */
    static FairLoops line(int asks) {
        FairLoops x = full(asks);
        for (int s = 0; s + 1 < STATES; s++) {
            x.move(s, s + 1, FairLoops.NONE);
        }
        return x;
    }
}
