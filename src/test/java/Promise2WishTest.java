/** Promise 2: wish answers what was wished before; without such a variable nothing changes. */
public final class Promise2WishTest {
    public static void main(String[] args) {
        Due due = new Due();
        answersWhatWasBefore(due);
        leavesAllElseAlone(due);
        refusesOthers(due);
        due.end();
    }

    private static void answersWhatWasBefore(Due due) {
        for (int n = 1; n <= 16; n++) {
            ClauseSolver x = new ClauseSolver(n);
            for (int v = 0; v < n; v++) {
                String of = "N " + n + ": wish(" + v + ", ";
                due.is(of + "true), first", x.wish(v, true), false);
                due.is(of + "true), again", x.wish(v, true), true);
                due.is("answer() with " + v + " wished", x.answer(), 1 << v);
                due.is(of + "false), first", x.wish(v, false), true);
                due.is(of + "false), again", x.wish(v, false), false);
                due.is("answer() with none wished", x.answer(), 0);
            }
        }
    }

    private static void leavesAllElseAlone(Due due) {
        ClauseSolver x = new ClauseSolver(12);
        x.some(1, 2);
        x.literal(3, true);
        x.wish(11, true);
        x.wish(5, true);
        x.wish(5, false);
        due.is("wish(11, true), still wished", x.wish(11, true), true);
        due.is("count(0)", x.count(0), 12);
        due.is("count(1)", x.count(1), 1);
        due.is("count(2)", x.count(2), 1);
    }

    private static void refusesOthers(Due due) {
        int[] none = {-1, -32, 5, 6, 16, 31, 32, 33, 37, Integer.MIN_VALUE, Integer.MAX_VALUE};
        ClauseSolver x = new ClauseSolver(5);
        x.wish(0, true);
        x.wish(4, true);
        for (int v : none) {
            due.is("wish(" + v + ", true)", x.wish(v, true), false);
            due.is("wish(" + v + ", true), again", x.wish(v, true), false);
            due.is("answer() after wish(" + v + ", true)", x.answer(), 17);
            due.is("wish(" + v + ", false)", x.wish(v, false), false);
            due.is("answer() after wish(" + v + ", false)", x.answer(), 17);
        }
        due.is("wish(16, true) of 16", new ClauseSolver(16).wish(16, true), false);
    }
}
