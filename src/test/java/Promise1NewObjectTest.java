/** Promise 1: N is clamped to 1 to 16; a new object has no clauses, no names and no wishes. */
public final class Promise1NewObjectTest {
    public static void main(String[] args) {
        Due due = new Due();
        int[][] clamped = {
            {Integer.MIN_VALUE, 1}, {-1, 1}, {0, 1}, {17, 16}, {32, 16}, {Integer.MAX_VALUE, 16}
        };
        for (int[] pair : clamped) {
            startsEmpty(due, pair[0], pair[1]);
        }
        for (int n = 1; n <= 16; n++) {
            startsEmpty(due, n, n);
        }
        objectsAreApart(due);
        due.is("REFUSED", ClauseSolver.REFUSED, -1);
        due.is("NONE", ClauseSolver.NONE, -2);
        due.is("FULL", ClauseSolver.FULL, -3);
        due.end();
    }

    private static void startsEmpty(Due due, int given, int n) {
        ClauseSolver x = new ClauseSolver(given);
        String of = "new ClauseSolver(" + given + "): ";
        due.is(of + "count(0)", x.count(0), n);
        due.is(of + "count(1)", x.count(1), 0);
        due.is(of + "count(2)", x.count(2), 0);
        due.is(of + "solve()", x.solve(), true);
        due.is(of + "answer()", x.answer(), 0);
        due.is(of + "literal(N, true)", x.literal(n, true), ClauseSolver.REFUSED);
        for (int v = 0; v < n; v++) {
            due.is(of + "wish(" + v + ", true)", x.wish(v, true), false);
        }
        due.is(of + "answer(), all wished", x.answer(), (1 << n) - 1);
    }

    private static void objectsAreApart(Due due) {
        ClauseSolver one = new ClauseSolver(4);
        ClauseSolver other = new ClauseSolver(4);
        one.wish(0, true);
        one.literal(1, true);
        one.some(0, 0);
        due.is("other.count(1)", other.count(1), 0);
        due.is("other.count(2)", other.count(2), 0);
        due.is("other.answer()", other.answer(), 0);
    }
}
