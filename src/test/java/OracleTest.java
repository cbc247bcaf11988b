import java.util.ArrayList;
import java.util.List;
import java.util.Random;

/**
 * Many small graphs, from fixed seeds, each asked every question and compared with answers that
 * follow the document's words: every set of states is looked at, no clever way is taken.
 */
public final class OracleTest {
    private static final int NONE = FairLoops.NONE;
    private static final int GRAPHS = 20000;
    private static final Due due = new Due();

    public static void main(String[] args) {
        for (int seed = 0; seed < GRAPHS; seed++) {
            compare(seed);
        }
        due.end();
    }

    private static void compare(int seed) {
        Random random = new Random(seed);
        FairLoops x = new FairLoops();
        Plain plain = new Plain();
        int states = 1 + random.nextInt(6);
        int labels = 1 + random.nextInt(4);
        int waits = 1 + random.nextInt(3);
        for (int s = 0; s < states; s++) {
            int asks = (random.nextInt(4) < waits ? 1 : 0) | random.nextInt(2) << 1;
            boolean end = random.nextInt(3) == 0;
            x.state(asks, end);
            plain.asks.add(asks);
            plain.ends.add(end);
        }
        change(random, labels, x, plain);
        askAll("seed " + seed + ", first", x, plain);
        change(random, labels, x, plain);
        askAll("seed " + seed + ", second", x, plain);
    }

    private static void change(Random random, int labels, FairLoops x, Plain plain) {
        int states = plain.asks.size();
        int moves = random.nextInt(2 * states + 1);
        for (int m = 0; m < moves; m++) {
            int[] move = {random.nextInt(states), random.nextInt(states), random.nextInt(labels + 1) - 1};
            due.is("move number", x.move(move[0], move[1], move[2]), plain.moves.size());
            plain.moves.add(move);
        }
        for (int label = 0; label < labels; label++) {
            int how = random.nextInt(3);
            due.is("label was", x.label(label, how), plain.kinds[label]);
            plain.kinds[label] = how;
        }
    }

    private static void askAll(String what, FairLoops x, Plain plain) {
        due.is(what + ": reached", x.reached(), Integer.bitCount(plain.reached()));
        int live = 6;
        for (int ask = 0; ask < 2; ask++) {
            if (askOne(what + ": ask " + ask, x, plain, ask)) {
                live++;
            }
        }
        due.is(what + ": live asks", x.count(5), live);
        for (int s = 0; s < plain.asks.size(); s++) {
            List<Integer> row = plain.row(s);
            for (int i = 0; i <= row.size(); i++) {
                due.is(what + ": row(" + s + ", " + i + ")", x.row(s, i), i < row.size() ? row.get(i) : NONE);
            }
        }
    }

    private static boolean askOne(String what, FairLoops x, Plain plain, int ask) {
        int its = plain.statesOf(ask);
        List<Integer> parts = plain.fairParts(its);
        due.is(what + " parts", x.parts(ask), parts.size());
        for (int k = 0; k < parts.size(); k++) {
            sameStates(what + " part " + k, parts.get(k), x, ask, k);
        }
        int kk = parts.size();
        due.refuses(what + " part behind", IndexOutOfBoundsException.class, () -> x.part(ask, kk, 0));
        int dead = plain.dead(its);
        int k = 0;
        for (int s = 0; s < plain.asks.size(); s++) {
            if ((dead >> s & 1) == 1) {
                due.is(what + " dead " + k, x.dead(ask, k), s);
                k++;
            }
        }
        int behind = k;
        due.refuses(what + " dead behind", IndexOutOfBoundsException.class, () -> x.dead(ask, behind));
        boolean live = dead == 0 && parts.isEmpty();
        due.is(what + " live", x.live(ask), live);
        int largest = plain.largest(its);
        due.is(what + " largest", x.largest(ask), largest);
        int longest = 0;
        for (int s = 0; s < plain.asks.size(); s++) {
            boolean ranked = largest == 0 && (its >> s & 1) == 1;
            int rank = ranked ? plain.rank(its, s) : NONE;
            due.is(what + " rank " + s, x.rank(ask, s), rank);
            longest = Math.max(longest, rank);
        }
        due.is(what + " longest", x.longest(ask), largest > 0 ? NONE : longest);
        return live;
    }

    private static void sameStates(String what, int set, FairLoops x, int ask, int k) {
        int i = 0;
        for (int s = 0; s < 32; s++) {
            if ((set >> s & 1) == 1) {
                due.is(what + " state " + i, x.part(ask, k, i), s);
                i++;
            }
        }
        int behind = i;
        due.refuses(what + " behind", IndexOutOfBoundsException.class, () -> x.part(ask, k, behind));
    }

    /** The document's words, put as plainly as can be; sets of states are bits. */
    private static final class Plain {
        final List<Integer> asks = new ArrayList<>();
        final List<Boolean> ends = new ArrayList<>();
        final List<int[]> moves = new ArrayList<>();
        final int[] kinds = new int[16];

        private static boolean has(int set, int s) {
            return (set >> s & 1) == 1;
        }

        /** The states to which one comes from s by one or more moves inside the set. */
        private int onward(int set, int s) {
            int come = 0;
            for (int turn = 0; turn <= asks.size(); turn++) {
                for (int[] move : moves) {
                    boolean begun = move[0] == s || has(come, move[0]);
                    if (begun && has(set, move[0]) && has(set, move[1])) {
                        come |= 1 << move[1];
                    }
                }
            }
            return come;
        }

        int reached() {
            return 1 | onward(~0, 0);
        }

        int statesOf(int ask) {
            int set = 0;
            for (int s = 0; s < asks.size(); s++) {
                if (has(reached(), s) && has(asks.get(s), ask)) {
                    set |= 1 << s;
                }
            }
            return set;
        }

        private boolean isPart(int set) {
            for (int s = 0; s < asks.size(); s++) {
                if (has(set, s) && (onward(set, s) & set) != set) {
                    return false;
                }
            }
            return set != 0;
        }

        private boolean able(int label, int s) {
            for (int[] move : moves) {
                if (move[2] == label && move[0] == s) {
                    return true;
                }
            }
            return false;
        }

        private boolean isFair(int set) {
            for (int label = 0; label < 16; label++) {
                boolean any = false;
                boolean all = true;
                boolean inside = false;
                for (int s = 0; s < asks.size(); s++) {
                    if (has(set, s)) {
                        any |= able(label, s);
                        all &= able(label, s);
                    }
                }
                for (int[] move : moves) {
                    inside |= move[2] == label && has(set, move[0]) && has(set, move[1]);
                }
                if (!inside && (kinds[label] == 1 && all || kinds[label] == 2 && any)) {
                    return false;
                }
            }
            return true;
        }

        List<Integer> fairParts(int its) {
            List<Integer> fair = new ArrayList<>();
            for (int set = 1; set < 1 << asks.size(); set++) {
                if ((set & its) == set && isPart(set) && isFair(set)) {
                    fair.add(set);
                }
            }
            List<Integer> most = new ArrayList<>();
            for (int set : fair) {
                boolean inLarger = false;
                for (int other : fair) {
                    inLarger |= other != set && (other & set) == set;
                }
                if (!inLarger) {
                    most.add(set);
                }
            }
            most.sort((a, b) -> Integer.numberOfTrailingZeros(a) - Integer.numberOfTrailingZeros(b));
            return most;
        }

        int largest(int its) {
            int size = 0;
            for (int set = 1; set < 1 << asks.size(); set++) {
                if ((set & its) == set && isPart(set)) {
                    size = Math.max(size, Integer.bitCount(set));
                }
            }
            return size;
        }

        int dead(int its) {
            int set = 0;
            for (int s = 0; s < asks.size(); s++) {
                boolean begins = false;
                for (int[] move : moves) {
                    begins |= move[0] == s;
                }
                if (has(its, s) && !ends.get(s) && !begins) {
                    set |= 1 << s;
                }
            }
            return set;
        }

        /** Ends only where nothing goes round. */
        int rank(int its, int s) {
            int rank = 0;
            for (int[] move : moves) {
                if (move[0] == s && has(its, move[1])) {
                    rank = Math.max(rank, 1 + rank(its, move[1]));
                }
            }
            return rank;
        }

        /** All rows of one length after the other, as words, until one leads there. */
        List<Integer> row(int target) {
            if (!has(reached(), target)) {
                return new ArrayList<>();
            }
            int length = 0;
            while (!has(behind(length), target)) {
                length++;
            }
            List<Integer> row = new ArrayList<>();
            complete(row, 0, target, length);
            return row;
        }

        /** The states behind rows of just so many moves. */
        private int behind(int length) {
            int set = 1;
            for (int i = 0; i < length; i++) {
                int next = 0;
                for (int[] move : moves) {
                    next |= has(set, move[0]) ? 1 << move[1] : 0;
                }
                set = next;
            }
            return set;
        }

        private boolean complete(List<Integer> row, int s, int target, int left) {
            if (left == 0) {
                return s == target;
            }
            for (int m = 0; m < moves.size(); m++) {
                if (moves.get(m)[0] == s) {
                    row.add(m);
                    if (complete(row, moves.get(m)[1], target, left - 1)) {
                        return true;
                    }
                    row.remove(row.size() - 1);
                }
            }
            return false;
        }
    }
}
