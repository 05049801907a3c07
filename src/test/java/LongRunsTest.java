/** All promises at once: long mixed runs, each answer set against that of PlainSolver. */
public final class LongRunsTest {
    private static final int CALLS = 512;
    private static final Due DUE = new Due();
    private static long seed = 20261115L;

    public static void main(String[] args) {
        for (int n = -1; n <= 18; n++) {
            int runs = n <= 8 ? 60 : n <= 12 ? 16 : 4;
            for (int r = 0; r < runs; r++) {
                run(n, 1 + r % 4, 2 + below(20), r % 4 == 3 ? 398 : 0);
            }
        }
        DUE.end();
    }

    /** A fixed row of numbers, so that a failure comes again on the next run. */
    private static int below(int bound) {
        seed = seed * 6364136223846793005L + 1442695040888963407L;
        return (int) ((seed >>> 33) % bound);
    }

    private static void run(int given, int width, int drops, int filled) {
        ClauseSolver x = new ClauseSolver(given);
        PlainSolver plain = new PlainSolver(given);
        for (int call = 0; call < filled; call++) {
            int y = bits(given, 6);
            int n = bits(given, 6);
            DUE.is("N " + given + ", filling: some(" + y + ", " + n + ")", x.some(y, n), plain.some(y, n));
        }
        for (int call = filled; call < CALLS; call++) {
            String of = "N " + given + ", call " + call + ": ";
            int kind = below(60);
            if (kind < drops) {
                int k = below(plain.count(1) + 2) - 1;
                DUE.is(of + "drop(" + k + ")", x.drop(k), plain.drop(k));
            } else if (kind < 40) {
                int y = bits(given, width);
                int n = bits(given, width);
                DUE.is(of + "some(" + y + ", " + n + ")", x.some(y, n), plain.some(y, n));
            } else {
                otherCall(of, kind, given, x, plain);
            }
        }
    }

    private static void otherCall(String of, int kind, int given, ClauseSolver x, PlainSolver plain) {
        int v = below(20) == 0 ? below(40) - 20 : below(Math.max(1, given));
        boolean is = below(2) == 0;
        if (kind < 44) {
            DUE.is(of + "wish(" + v + ", " + is + ")", x.wish(v, is), plain.wish(v, is));
        } else if (kind < 50) {
            DUE.is(of + "literal(" + v + ", " + is + ")", x.literal(v, is), plain.literal(v, is));
        } else if (kind < 53) {
            if (plain.count(2) > 0 || below(20) == 0) {
                DUE.is(of + "clause()", x.clause(), plain.clause());
            }
        } else if (kind < 55) {
            int what = below(5) - 1;
            DUE.is(of + "count(" + what + ")", x.count(what), plain.count(what));
        } else if (kind < 57) {
            DUE.is(of + "solve()", x.solve(), plain.solve());
        } else {
            DUE.is(of + "answer()", x.answer(), plain.answer());
        }
    }

    /** A few bits, most often of variables that there are. */
    private static int bits(int given, int width) {
        int bits = 0;
        for (int j = 0; j < width; j++) {
            bits |= 1 << (below(40) == 0 ? below(32) : below(Math.max(1, given)));
        }
        return bits;
    }
}
