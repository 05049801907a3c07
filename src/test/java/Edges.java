/** Numbers and objects at the edges that the document names, for all tests. */
final class Edges {
    static final int LOWEST = Integer.MIN_VALUE;
    static final int HIGHEST = Integer.MAX_VALUE;

    private Edges() {
    }

    /** Numbers without a variable; some would wrap around to a variable if they were shifted by. */
    static int[] noVariables(int n) {
        return new int[] {
            -1, n, n + 1, 31, 32, 32 + n - 1, 64, -32, -32 + n - 1, LOWEST, LOWEST + n - 1, HIGHEST
        };
    }

    /** Numbers without a clause, when there are as many clauses as is said. */
    static int[] noClauses(int clauses) {
        return new int[] {
            clauses, clauses + 1, -1, -clauses - 1, 400, 401, 65536, LOWEST, LOWEST + clauses, HIGHEST
        };
    }

    static int all(int n) {
        return (1 << n) - 1;
    }

    /** An object that has as many clauses as is said, all of them alike. */
    static ClauseSolver filled(int n, int clauses, int asTrue, int asFalse) {
        ClauseSolver x = new ClauseSolver(n);
        for (int k = 0; k < clauses; k++) {
            x.some(asTrue, asFalse);
        }
        return x;
    }

    static void wishAll(ClauseSolver x, int n, boolean is) {
        for (int v = 0; v < n; v++) {
            x.wish(v, is);
        }
    }
}
