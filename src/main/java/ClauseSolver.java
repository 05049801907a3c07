/**
 * Clauses over truths: is there an answer, and which one comes first in a wished order.
 *
 * The last six variables are the tail: all 64 ways to set them are held as the bits of one long.
 * The variables before them are the head: they are set one by one, by numbers and the wished value
 * first, so that the first answer that is met is the one that comes first.
 */
public final class ClauseSolver {
    public static final int REFUSED = -1, NONE = -2, FULL = -3;

    private static final int MOST_VARIABLES = 16;
    private static final int MOST_CLAUSES = 400;
    private static final int TAIL_LENGTH = 6;
    private static final long EVERY_TAIL = -1L;
    /** Bit t of row j is bit j of t: the tails in which the tail's variable j is true. */
    private static final long[] TAILS_WITH = {
        0xAAAAAAAAAAAAAAAAL,
        0xCCCCCCCCCCCCCCCCL,
        0xF0F0F0F0F0F0F0F0L,
        0xFF00FF00FF00FF00L,
        0xFFFF0000FFFF0000L,
        0xFFFFFFFF00000000L
    };

    private final int variables;
    /** How many variables the head has; with fewer than six in all, the tail has unused ones. */
    private final int heads;
    private int wishes;
    private int madeTrue;
    private int madeFalse;

    private int clauses;
    private final int[] headTrue;
    private final int[] headFalse;
    /** How many of the head's variables must be set before the clause's head is known. */
    private final int[] depths;
    /** The tails that meet the clause, whatever its head is. */
    private final long[] tails;

    public ClauseSolver(int variables) {
        this.variables = Math.max(1, Math.min(MOST_VARIABLES, variables));
        heads = Math.max(0, this.variables - TAIL_LENGTH);
        headTrue = new int[MOST_CLAUSES];
        headFalse = new int[MOST_CLAUSES];
        depths = new int[MOST_CLAUSES];
        tails = new long[MOST_CLAUSES];
    }

    public boolean wish(int v, boolean is) {
        if (!isVariable(v)) {
            return false;
        }
        boolean before = has(wishes, v);
        wishes = is ? wishes | (1 << v) : wishes & ~(1 << v);
        return before;
    }

    public int literal(int v, boolean is) {
        if (!isVariable(v)) {
            return REFUSED;
        }
        if (is) {
            madeTrue |= 1 << v;
        } else {
            madeFalse |= 1 << v;
        }
        return namedByMadeUp();
    }

    public int clause() {
        int answer = append(madeTrue, madeFalse);
        if (answer != FULL) {
            madeTrue = 0;
            madeFalse = 0;
        }
        return answer;
    }

    public int some(int y, int n) {
        int existing = lowBits(variables);
        return append(y & existing, n & existing);
    }

    public int drop(int k) {
        if (k < 0 || k >= clauses) {
            return NONE;
        }
        clauses--;
        headTrue[k] = headTrue[clauses];
        headFalse[k] = headFalse[clauses];
        depths[k] = depths[clauses];
        tails[k] = tails[clauses];
        return clauses;
    }

    public boolean solve() {
        return firstAnswer() != NONE;
    }

    public int answer() {
        return firstAnswer();
    }

    public int count(int what) {
        switch (what) {
            case 0:
                return variables;
            case 1:
                return clauses;
            case 2:
                return namedByMadeUp();
            default:
                return REFUSED;
        }
    }

    private boolean isVariable(int v) {
        return v >= 0 && v < variables;
    }

    private static boolean has(int bits, int v) {
        return ((bits >> v) & 1) != 0;
    }

    private static int lowBits(int howMany) {
        return (1 << howMany) - 1;
    }

    private int namedByMadeUp() {
        return Integer.bitCount(madeTrue) + Integer.bitCount(madeFalse);
    }

    private int append(int asTrue, int asFalse) {
        if (clauses >= MOST_CLAUSES) {
            return FULL;
        }
        int head = lowBits(heads);
        headTrue[clauses] = asTrue & head;
        headFalse[clauses] = asFalse & head;
        depths[clauses] = depthOf((asTrue | asFalse) & head);
        tails[clauses] = tailsThatMeet(asTrue >> heads, asFalse >> heads);
        clauses++;
        return clauses;
    }

    private int depthOf(int named) {
        int depth = heads;
        while (depth > 0 && !has(named, depth - 1)) {
            depth--;
        }
        return depth;
    }

    private static long tailsThatMeet(int asTrue, int asFalse) {
        long meeting = 0;
        for (int j = 0; j < TAIL_LENGTH; j++) {
            if (has(asTrue, j)) {
                meeting |= TAILS_WITH[j];
            }
            if (has(asFalse, j)) {
                meeting |= ~TAILS_WITH[j];
            }
        }
        return meeting;
    }

    private int firstAnswer() {
        return firstBelow(0, 0, EVERY_TAIL);
    }

    /** The first answer whose variables before depth are those of head, with a tail out of open. */
    private int firstBelow(int depth, int head, long open) {
        long left = narrowed(depth, head, open);
        if (left == 0) {
            return NONE;
        }
        if (depth >= heads) {
            return head | (firstTail(left) << heads);
        }
        return firstOfBoth(depth, head, left);
    }

    private int firstOfBoth(int depth, int head, long open) {
        int wished = wishes & (1 << depth);
        int found = firstBelow(depth + 1, head | wished, open);
        if (found != NONE) {
            return found;
        }
        int unwished = wished ^ (1 << depth);
        return firstBelow(depth + 1, head | unwished, open);
    }

    /** Clauses of a lesser depth have narrowed the tails already, on the way down to this one. */
    private long narrowed(int depth, int head, long open) {
        long left = open;
        for (int k = 0; k < clauses && left != 0; k++) {
            if (depths[k] == depth && !headMeets(k, head)) {
                left &= tails[k];
            }
        }
        return left;
    }

    private boolean headMeets(int k, int head) {
        return ((headTrue[k] & head) | (headFalse[k] & ~head)) != 0;
    }

    /** Unused variables of the tail come out false: no clause names them and none is wished. */
    private int firstTail(long open) {
        long left = open;
        int tail = 0;
        for (int j = 0; j < TAIL_LENGTH; j++) {
            long with = left & TAILS_WITH[j];
            long without = left & ~TAILS_WITH[j];
            boolean wished = has(wishes, heads + j);
            boolean is = wished ? with != 0 : without == 0;
            left = is ? with : without;
            tail |= is ? 1 << j : 0;
        }
        return tail;
    }
}
