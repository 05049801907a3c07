/** Promise 1: N is clamped to 1 to 16; a new object has no clauses, no names and no wishes. */
public final class Promise1NewObjectTest {
    public static void main(String[] args) {
        Due due = new Due();
        takesWhatFits(due);
        clampsTooSmall(due);
        clampsTooLarge(due);
        objectsAreApart(due);
        theConstants(due);
        due.end();
    }

    private static void takesWhatFits(Due due) {
        due.under("N: variables, 1 to 16");
        for (int n = 1; n <= 16; n++) {
            startsEmpty(due, n, n);
        }
    }

    private static void clampsTooSmall(Due due) {
        due.under("N: variables, 1 to 16, clamped: too small");
        for (int given : new int[] {0, -1, -2, -16, -32, -65536 + 5, Edges.LOWEST, Edges.LOWEST + 4}) {
            startsEmpty(due, given, 1);
        }
    }

    private static void clampsTooLarge(Due due) {
        due.under("N: variables, 1 to 16, clamped: too large");
        for (int given : new int[] {17, 18, 31, 32, 33, 64, 256 + 3, 65536 + 5, Edges.HIGHEST}) {
            startsEmpty(due, given, 16);
        }
    }

    private static void startsEmpty(Due due, int given, int n) {
        ClauseSolver x = new ClauseSolver(given);
        String of = "new ClauseSolver(" + given + "): ";
        due.is(of + "count(0)", x.count(0), n);
        due.is(of + "count(1)", x.count(1), 0);
        due.is(of + "count(2)", x.count(2), 0);
        due.is(of + "solve()", x.solve(), true);
        due.is(of + "answer()", x.answer(), 0);
        due.is(of + "literal(N, true)", x.literal(n, true), ClauseSolver.REFUSED);
        due.is(of + "literal(N - 1, true)", x.literal(n - 1, true), 1);
        for (int v = 0; v < n; v++) {
            due.is(of + "wish(" + v + ", true)", x.wish(v, true), false);
        }
        due.is(of + "wish(N, true)", x.wish(n, true), false);
        due.is(of + "answer(), all wished", x.answer(), Edges.all(n));
        x.some(0, -1);
        due.is(of + "answer(), not all", x.answer(), Edges.all(n - 1));
    }

    private static void objectsAreApart(Due due) {
        due.under("A new object");
        ClauseSolver one = new ClauseSolver(4);
        ClauseSolver other = new ClauseSolver(5);
        one.wish(0, true);
        one.literal(1, true);
        one.some(0, 0);
        due.is("other.count(0)", other.count(0), 5);
        due.is("other.count(1)", other.count(1), 0);
        due.is("other.count(2)", other.count(2), 0);
        due.is("other.answer()", other.answer(), 0);
        due.is("one.count(0)", one.count(0), 4);
        due.is("one.count(1)", one.count(1), 1);
    }

    private static void theConstants(Due due) {
        due.under("REFUSED = -1, NONE = -2, FULL = -3");
        due.is("REFUSED", ClauseSolver.REFUSED, -1);
        due.is("NONE", ClauseSolver.NONE, -2);
        due.is("FULL", ClauseSolver.FULL, -3);
    }
}
