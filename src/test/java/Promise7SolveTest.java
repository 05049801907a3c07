/** Promise 7: solve says whether there is an answer. */
public final class Promise7SolveTest {
    public static void main(String[] args) {
        Due due = new Due();
        withNoClause(due);
        withOneThatNamesNone(due);
        withNoAnswer(due);
        withJustOneAnswer(due);
        fullWith400(due);
        noWayIsLeft(due);
        pigeons(due);
        chains(due);
        changesNothing(due);
        due.end();
    }

    private static void withNoClause(Due due) {
        due.under("Whether there is an answer: with no clause");
        for (int n = 1; n <= 16; n++) {
            ClauseSolver x = new ClauseSolver(n);
            due.is("N " + n + ": solve() at first", x.solve(), true);
            Edges.wishAll(x, n, true);
            x.literal(0, true);
            due.is("N " + n + ": solve(), one made up", x.solve(), true);
            x.some(0, 0);
            x.drop(0);
            due.is("N " + n + ": solve(), none again", x.solve(), true);
        }
    }

    private static void withOneThatNamesNone(Due due) {
        due.under("Whether there is an answer: with a clause that names none");
        for (int n = 1; n <= 16; n++) {
            ClauseSolver x = new ClauseSolver(n);
            x.clause();
            due.is("N " + n + ": solve() with clause()", x.solve(), false);
            x.drop(0);
            due.is("N " + n + ": solve() without it", x.solve(), true);
            x.some(0, 0);
            due.is("N " + n + ": solve() with some(0, 0)", x.solve(), false);
            x.some(-1, -1);
            due.is("N " + n + ": solve() with another", x.solve(), false);
            x.drop(0);
            due.is("N " + n + ": solve() with the other alone", x.solve(), true);
        }
    }

    private static void withNoAnswer(Due due) {
        due.under("Whether there is an answer: with none");
        for (int n = 1; n <= 16; n++) {
            for (int v = 0; v < n; v++) {
                ClauseSolver x = new ClauseSolver(n);
                x.some(1 << v, 0);
                due.is("N " + n + ": solve() of " + v, x.solve(), true);
                x.some(0, 1 << v);
                due.is("N " + n + ": solve() of " + v + " as both", x.solve(), false);
                x.wish(v, true);
                due.is("N " + n + ": solve(), wished", x.solve(), false);
                x.drop(0);
                due.is("N " + n + ": solve() of not " + v, x.solve(), true);
            }
        }
    }

    private static void withJustOneAnswer(Due due) {
        due.under("Whether there is an answer: whichever it is");
        for (int n = 1; n <= 16; n++) {
            for (int way = 0; way < 1 << n; way += 1 + (1 << n) / 64) {
                oneIsLeft(due, n, way);
            }
            oneIsLeft(due, n, Edges.all(n));
            oneIsLeft(due, n, Edges.all(n) - 1);
        }
    }

    private static void oneIsLeft(Due due, int n, int way) {
        ClauseSolver x = new ClauseSolver(n);
        for (int v = 0; v < n; v++) {
            x.some(way & 1 << v, ~way & 1 << v);
        }
        due.is("N " + n + ": solve(), only " + way + " is left", x.solve(), true);
        x.some(~way, way);
        due.is("N " + n + ": solve() without " + way, x.solve(), false);
    }

    /** The clause that decides is the first or the last of 400. */
    private static void fullWith400(Due due) {
        due.under("Whether there is an answer: with 400 clauses");
        for (int place : new int[] {0, 399}) {
            ClauseSolver x = Edges.filled(16, place, 32768, 0);
            x.some(0, 32768);
            for (int k = place + 1; k < 400; k++) {
                x.some(32768, 0);
            }
            due.is("solve() with 400", x.solve(), false);
            x.drop(place);
            due.is("solve() with 399", x.solve(), true);
        }
    }

    /** All ways to set three variables are shut out one by one, wherever these stand. */
    private static void noWayIsLeft(Due due) {
        due.under("Whether there is an answer: each way is shut out by a clause");
        int[][] places = {{0, 1, 2}, {7, 8, 9}, {8, 9, 10}, {9, 10, 11}, {13, 14, 15}, {0, 9, 15}};
        for (int[] at : places) {
            ClauseSolver x = new ClauseSolver(16);
            int all = 1 << at[0] | 1 << at[1] | 1 << at[2];
            for (int way = 0; way < 8; way++) {
                due.is("solve() before way " + way, x.solve(), true);
                int y = 0;
                for (int j = 0; j < 3; j++) {
                    y |= (way >> j & 1) << at[j];
                }
                x.some(y, all & ~y);
            }
            due.is("solve() with no way left", x.solve(), false);
            x.drop(5);
            due.is("solve() with one way left", x.solve(), true);
        }
    }

    /** Variable 4 p + h: pigeon p sits in hole h of four; the fifth pigeon has no variable left. */
    private static void pigeons(Due due) {
        due.under("Whether there is an answer: pigeons");
        ClauseSolver x = new ClauseSolver(16);
        for (int p = 0; p < 4; p++) {
            x.some(15 << 4 * p, 0);
        }
        for (int h = 0; h < 4; h++) {
            for (int p = 0; p < 4; p++) {
                for (int q = 0; q < p; q++) {
                    x.some(0, 1 << 4 * p + h | 1 << 4 * q + h);
                }
            }
        }
        due.is("solve() of four pigeons in four holes", x.solve(), true);
        x.some(0, 1 << 3);
        x.some(0, 1 << 7);
        x.some(0, 1 << 11);
        due.is("solve() with one who may have the fourth", x.solve(), true);
        x.some(0, 1 << 15);
        due.is("solve() of four pigeons in three holes", x.solve(), false);
    }

    private static void chains(Due due) {
        due.under("Whether there is an answer: chains");
        for (int n = 1; n <= 16; n++) {
            ClauseSolver x = new ClauseSolver(n);
            x.some(1, 0);
            for (int v = 1; v < n; v++) {
                x.some(1 << v, 1 << v - 1);
            }
            due.is("solve() of a chain of " + n, x.solve(), true);
            x.some(0, 1 << n - 1);
            due.is("solve() of a chain of " + n + ", end shut", x.solve(), false);
        }
    }

    private static void changesNothing(Due due) {
        due.under("Whether there is an answer: solve changes nothing");
        ClauseSolver x = new ClauseSolver(5);
        x.some(3, 0);
        x.literal(2, true);
        x.wish(4, true);
        for (int time = 0; time < 3; time++) {
            due.is("solve()", x.solve(), true);
            due.is("count(1)", x.count(1), 1);
            due.is("count(2)", x.count(2), 1);
            due.is("answer()", x.answer(), 18);
        }
        due.is("wish(4, true), still wished", x.wish(4, true), true);
    }
}
