/** Promise 6: drop takes clause k away, and the last one takes its number. */
public final class Promise6DropTest {
    public static void main(String[] args) {
        Due due = new Due();
        clauseKGoes(due);
        lastOneTakesTheNumber(due);
        lastOneMayNameFalse(due);
        lastOneMayNameNone(due);
        lastOneItself(due);
        dropsFromTheFullRow(due);
        dropsAll(due);
        noneWithoutAClause(due);
        noneForOthers(due);
        leavesTheMadeUpOne(due);
        due.end();
    }

    /** Clause k says that variable k is true: the answer tells which of them are there. */
    private static ClauseSolver oneEach(int n) {
        ClauseSolver x = new ClauseSolver(n);
        for (int v = 0; v < n; v++) {
            x.some(1 << v, 0);
        }
        return x;
    }

    private static void clauseKGoes(Due due) {
        due.under("Clause k, from 0, goes");
        for (int n = 1; n <= 16; n++) {
            for (int k = 0; k < n; k++) {
                ClauseSolver x = oneEach(n);
                due.is("N " + n + ": drop(" + k + ")", x.drop(k), n - 1);
                due.is("N " + n + ": answer() without " + k, x.answer(), Edges.all(n) & ~(1 << k));
                due.is("N " + n + ": count(1)", x.count(1), n - 1);
            }
        }
    }

    private static void lastOneTakesTheNumber(Due due) {
        due.under("the last one takes its number");
        for (int n = 2; n <= 16; n++) {
            for (int k = 0; k < n - 1; k++) {
                ClauseSolver x = oneEach(n);
                x.drop(k);
                due.is("N " + n + ": drop(" + k + ") again", x.drop(k), n - 2);
                int want = Edges.all(n - 1) & ~(1 << k);
                due.is("N " + n + ": answer() without the last one", x.answer(), want);
            }
        }
        ClauseSolver x = oneEach(4);
        due.is("drop(0) of 0 1 2 3", x.drop(0), 3);
        due.is("drop(1) of 3 1 2", x.drop(1), 2);
        due.is("drop(1) of 3 2", x.drop(1), 1);
        due.is("answer() of 3", x.answer(), 8);
    }

    private static void lastOneMayNameFalse(Due due) {
        due.under("the last one takes its number, as false too");
        for (int v = 1; v < 16; v++) {
            ClauseSolver x = new ClauseSolver(16);
            x.wish(v, true);
            x.some(1, 0);
            x.some(0, 1 << v);
            due.is("answer() of 0, not " + v, x.answer(), 1);
            due.is("drop(0)", x.drop(0), 1);
            due.is("answer() of not " + v, x.answer(), 0);
            due.is("drop(0), the only one", x.drop(0), 0);
            due.is("answer() of none", x.answer(), 1 << v);
        }
    }

    private static void lastOneMayNameNone(Due due) {
        due.under("the last one takes its number, one that names none too");
        for (int n = 1; n <= 16; n++) {
            ClauseSolver x = new ClauseSolver(n);
            x.some(1, 0);
            x.some(1, 0);
            x.clause();
            due.is("N " + n + ": drop(0)", x.drop(0), 2);
            due.is("N " + n + ": solve() with it", x.solve(), false);
            due.is("N " + n + ": drop(1)", x.drop(1), 1);
            due.is("N " + n + ": solve() with it alone", x.solve(), false);
            due.is("N " + n + ": drop(0), it goes", x.drop(0), 0);
            due.is("N " + n + ": solve() without it", x.solve(), true);
        }
    }

    private static void lastOneItself(Due due) {
        due.under("Clause k goes, though it is the last one");
        for (int n = 1; n <= 16; n++) {
            ClauseSolver x = oneEach(n);
            for (int k = n - 1; k >= 0; k--) {
                due.is("N " + n + ": drop(" + k + ")", x.drop(k), k);
                due.is("N " + n + ": answer() of those before", x.answer(), Edges.all(k));
                due.is("N " + n + ": drop(" + k + ") again", x.drop(k), ClauseSolver.NONE);
            }
            due.is("N " + n + ": some(1, 0)", x.some(1, 0), 1);
            due.is("N " + n + ": answer()", x.answer(), 1);
        }
    }

    private static void dropsFromTheFullRow(Due due) {
        due.under("the last one takes its number, out of 400");
        for (int k : new int[] {0, 1, 200, 398}) {
            ClauseSolver x = Edges.filled(16, 399, 1, 0);
            x.some(2, 0);
            due.is("drop(400)", x.drop(400), ClauseSolver.NONE);
            due.is("drop(" + k + ")", x.drop(k), 399);
            due.is("drop(399)", x.drop(399), ClauseSolver.NONE);
            due.is("answer()", x.answer(), 3);
            due.is("drop(" + k + "), that was 399", x.drop(k), 398);
            due.is("answer() without it", x.answer(), 1);
        }
    }

    private static void dropsAll(Due due) {
        due.under("how many there are");
        ClauseSolver x = Edges.filled(16, 250, 3, 0);
        for (int left = 249; left >= 0; left--) {
            due.is("drop(" + left / 2 + ")", x.drop(left / 2), left);
        }
        due.is("drop(0) of none", x.drop(0), ClauseSolver.NONE);
        due.is("answer()", x.answer(), 0);
    }

    private static void noneWithoutAClause(Due due) {
        due.under("NONE if there is none: no clause at all");
        for (int n = 1; n <= 16; n++) {
            ClauseSolver x = new ClauseSolver(n);
            for (int k : Edges.noClauses(0)) {
                due.is("N " + n + ": drop(" + k + ") at first", x.drop(k), ClauseSolver.NONE);
            }
            x.some(1, 0);
            x.drop(0);
            for (int k : Edges.noClauses(0)) {
                due.is("N " + n + ": drop(" + k + ") after all", x.drop(k), ClauseSolver.NONE);
            }
            due.is("N " + n + ": count(1)", x.count(1), 0);
            due.is("N " + n + ": answer()", x.answer(), 0);
        }
    }

    private static void noneForOthers(Due due) {
        due.under("NONE if there is none: no clause k");
        for (int clauses : new int[] {1, 2, 16, 399, 400}) {
            ClauseSolver x = Edges.filled(16, clauses, 1 << clauses % 16, 0);
            for (int k : Edges.noClauses(clauses)) {
                due.is(clauses + " clauses: drop(" + k + ")", x.drop(k), ClauseSolver.NONE);
                due.is(clauses + " clauses: count(1)", x.count(1), clauses);
                due.is(clauses + " clauses: answer()", x.answer(), 1 << clauses % 16);
            }
        }
    }

    private static void leavesTheMadeUpOne(Due due) {
        due.under("Clause k goes, and the one that is made up is no clause yet");
        ClauseSolver x = new ClauseSolver(8);
        x.literal(1, true);
        due.is("drop(0) without a clause", x.drop(0), ClauseSolver.NONE);
        x.some(1, 0);
        due.is("drop(1) with one clause", x.drop(1), ClauseSolver.NONE);
        due.is("drop(0) with one clause", x.drop(0), 0);
        due.is("count(2), it stays", x.count(2), 1);
        due.is("clause()", x.clause(), 1);
        due.is("answer()", x.answer(), 2);
    }
}
