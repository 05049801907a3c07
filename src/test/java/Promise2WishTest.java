/** Promise 2: wish answers what was wished before; without such a variable nothing changes. */
public final class Promise2WishTest {
    public static void main(String[] args) {
        Due due = new Due();
        answersWhatWasBefore(due);
        leavesAllElseAlone(due);
        answersFalseForOthers(due);
        changesNothingForOthers(due);
        due.end();
    }

    private static void answersWhatWasBefore(Due due) {
        due.under("A variable is wished true or false: what was wished before.");
        for (int n = 1; n <= 16; n++) {
            ClauseSolver x = new ClauseSolver(n);
            for (int v = 0; v < n; v++) {
                String of = "N " + n + ": wish(" + v + ", ";
                due.is(of + "true), first", x.wish(v, true), false);
                due.is(of + "true), again", x.wish(v, true), true);
                due.is("answer() with " + v + " wished", x.answer(), 1 << v);
                due.is(of + "false), first", x.wish(v, false), true);
                due.is(of + "false), again", x.wish(v, false), false);
                due.is("answer() with none wished", x.answer(), 0);
            }
        }
    }

    private static void leavesAllElseAlone(Due due) {
        due.under("A variable is wished, and no other");
        ClauseSolver x = new ClauseSolver(12);
        x.some(1, 2);
        x.literal(3, true);
        x.wish(11, true);
        x.wish(5, true);
        x.wish(5, false);
        due.is("wish(11, true), still wished", x.wish(11, true), true);
        due.is("count(0)", x.count(0), 12);
        due.is("count(1)", x.count(1), 1);
        due.is("count(2)", x.count(2), 1);
    }

    /** All variables are wished true, so that an answer out of any of them would be true. */
    private static void answersFalseForOthers(Due due) {
        due.under("False if there is no such variable.");
        for (int n = 1; n <= 16; n++) {
            ClauseSolver x = new ClauseSolver(n);
            Edges.wishAll(x, n, true);
            for (int v : Edges.noVariables(n)) {
                String of = "N " + n + ": wish(" + v + ", ";
                due.is(of + "true)", x.wish(v, true), false);
                due.is(of + "true), again", x.wish(v, true), false);
                due.is(of + "false)", x.wish(v, false), false);
            }
        }
    }

    private static void changesNothingForOthers(Due due) {
        due.under("Nothing changes if there is no such variable.");
        for (int n = 1; n <= 16; n++) {
            for (int v : Edges.noVariables(n)) {
                ClauseSolver x = new ClauseSolver(n);
                x.literal(n - 1, false);
                x.wish(v, true);
                due.is("N " + n + ": answer() after wish(" + v + ", true)", x.answer(), 0);
                Edges.wishAll(x, n, true);
                x.wish(v, false);
                due.is("N " + n + ": answer() after wish(" + v + ", false)", x.answer(), Edges.all(n));
                due.is("N " + n + ": count(0)", x.count(0), n);
                due.is("N " + n + ": count(1)", x.count(1), 0);
                due.is("N " + n + ": count(2)", x.count(2), 1);
                for (int u = 0; u < n; u++) {
                    due.is("N " + n + ": wish(" + u + ", false)", x.wish(u, false), true);
                }
            }
        }
    }
}
