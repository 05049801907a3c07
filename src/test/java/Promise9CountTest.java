/** Promise 9: count tells N, the clauses, and how many the made up one names. */
public final class Promise9CountTest {
    private static final int[] OTHERS = {
        -1, -2, -3, 3, 4, 16, 32, 256, 257, 65536, 65537,
        Edges.LOWEST, Edges.LOWEST + 1, Edges.LOWEST + 2, Edges.HIGHEST
    };

    public static void main(String[] args) {
        Due due = new Due();
        tellsN(due);
        tellsClauses(due);
        tellsNames(due);
        tellsAllThree(due);
        refusesOthers(due);
        due.end();
    }

    private static void tellsN(Due due) {
        due.under("What 0: N");
        for (int given = -2; given <= 19; given++) {
            int n = Math.max(1, Math.min(16, given));
            due.is("new ClauseSolver(" + given + "): count(0)", new ClauseSolver(given).count(0), n);
        }
    }

    private static void tellsClauses(Due due) {
        due.under("What 1: clauses");
        for (int clauses : new int[] {0, 1, 2, 399, 400, 401}) {
            ClauseSolver x = Edges.filled(8, clauses, 1, 0);
            due.is("count(1), " + clauses + " told", x.count(1), Math.min(400, clauses));
            x.clause();
            due.is("count(1), one more", x.count(1), Math.min(400, clauses + 1));
            x.drop(0);
            x.drop(0);
            due.is("count(1), two less", x.count(1), Math.max(0, Math.min(400, clauses + 1) - 2));
        }
    }

    private static void tellsNames(Due due) {
        due.under("What 2: how many the one that is made up names");
        for (int n = 1; n <= 16; n++) {
            ClauseSolver x = new ClauseSolver(n);
            due.is("N " + n + ": count(2), none", x.count(2), 0);
            for (int v = -1; v <= n; v++) {
                x.literal(v, true);
                x.literal(v, false);
                x.literal(v, true);
            }
            due.is("N " + n + ": count(2), all as both", x.count(2), 2 * n);
            x.clause();
            due.is("N " + n + ": count(2), another is begun", x.count(2), 0);
        }
    }

    private static void tellsAllThree(Due due) {
        due.under("What 0: N, 1: clauses, 2: how many the one that is made up names.");
        ClauseSolver x = new ClauseSolver(11);
        counts(due, x, 0, 0);
        x.literal(10, true);
        counts(due, x, 0, 1);
        x.literal(10, false);
        x.literal(10, false);
        counts(due, x, 0, 2);
        x.some(1, 1);
        counts(due, x, 1, 2);
        x.clause();
        counts(due, x, 2, 0);
        x.clause();
        counts(due, x, 3, 0);
        x.drop(3);
        counts(due, x, 3, 0);
        x.drop(2);
        counts(due, x, 2, 0);
        x.wish(3, true);
        x.solve();
        x.answer();
        counts(due, x, 2, 0);
    }

    private static void counts(Due due, ClauseSolver x, int clauses, int named) {
        due.is("count(0)", x.count(0), 11);
        due.is("count(1)", x.count(1), clauses);
        due.is("count(2)", x.count(2), named);
    }

    private static void refusesOthers(Due due) {
        due.under("REFUSED for others.");
        for (int n = 1; n <= 16; n++) {
            ClauseSolver x = new ClauseSolver(n);
            for (int what : OTHERS) {
                due.is("N " + n + ": count(" + what + ")", x.count(what), ClauseSolver.REFUSED);
            }
            x.some(1, 0);
            x.literal(0, true);
            for (int what : OTHERS) {
                due.is("N " + n + ": count(" + what + ")", x.count(what), ClauseSolver.REFUSED);
            }
            due.is("N " + n + ": count(0)", x.count(0), n);
            due.is("N " + n + ": count(1)", x.count(1), 1);
            due.is("N " + n + ": count(2)", x.count(2), 1);
        }
    }
}
