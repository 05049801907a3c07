/** Promise 9: count tells N, the clauses, and how many the made up one names. */
public final class Promise9CountTest {
    public static void main(String[] args) {
        Due due = new Due();
        ClauseSolver x = new ClauseSolver(11);
        counts(due, x, 0, 0);
        x.literal(10, true);
        counts(due, x, 0, 1);
        x.literal(10, false);
        x.literal(10, false);
        counts(due, x, 0, 2);
        x.some(1, 1);
        counts(due, x, 1, 2);
        x.clause();
        counts(due, x, 2, 0);
        x.clause();
        counts(due, x, 3, 0);
        x.drop(3);
        counts(due, x, 3, 0);
        x.drop(2);
        counts(due, x, 2, 0);
        x.wish(3, true);
        x.solve();
        x.answer();
        counts(due, x, 2, 0);
        for (int v = -1; v <= 11; v++) {
            x.literal(v, true);
            x.literal(v, false);
        }
        counts(due, x, 2, 22);
        due.end();
    }

    private static void counts(Due due, ClauseSolver x, int clauses, int named) {
        due.is("count(0)", x.count(0), 11);
        due.is("count(1)", x.count(1), clauses);
        due.is("count(2)", x.count(2), named);
        int[] others = {-1, 3, 4, 256, 257, Integer.MIN_VALUE, Integer.MAX_VALUE};
        for (int what : others) {
            due.is("count(" + what + ")", x.count(what), ClauseSolver.REFUSED);
        }
    }
}
