/** Promise 3: literal answers how many the made up clause names; both ways count twice. */
public final class Promise3LiteralTest {
    public static void main(String[] args) {
        Due due = new Due();
        countsEachNameOnce(due);
        namesWhatItSays(due);
        refusesOthers(due);
        goesOnWhenFull(due);
        due.end();
    }

    private static void countsEachNameOnce(Due due) {
        for (int n = 1; n <= 16; n++) {
            ClauseSolver x = new ClauseSolver(n);
            for (int v = 0; v < n; v++) {
                String of = "N " + n + ": literal(" + v + ", ";
                due.is(of + "true)", x.literal(v, true), 2 * v + 1);
                due.is(of + "true), again", x.literal(v, true), 2 * v + 1);
                due.is(of + "false)", x.literal(v, false), 2 * v + 2);
                due.is(of + "false), again", x.literal(v, false), 2 * v + 2);
                due.is(of + "true), once more", x.literal(v, true), 2 * v + 2);
            }
            due.is("count(1)", x.count(1), 0);
            due.is("clause()", x.clause(), 1);
            due.is("literal(0, false), of the next", x.literal(0, false), 1);
        }
    }

    private static void namesWhatItSays(Due due) {
        for (int v = 0; v < 16; v++) {
            ClauseSolver x = new ClauseSolver(16);
            x.literal(v, true);
            due.is("answer() before clause()", x.answer(), 0);
            x.clause();
            due.is("answer() with " + v + " true", x.answer(), 1 << v);
            x.literal(v, false);
            x.clause();
            due.is("answer() with " + v + " both", x.answer(), ClauseSolver.NONE);
            x.drop(0);
            x.wish(v, true);
            due.is("answer() with " + v + " false", x.answer(), 0);
        }
    }

    private static void refusesOthers(Due due) {
        int[] none = {-1, -31, 3, 4, 16, 32, 33, Integer.MIN_VALUE, Integer.MAX_VALUE};
        ClauseSolver x = new ClauseSolver(3);
        x.literal(1, true);
        for (int v : none) {
            due.is("literal(" + v + ", true)", x.literal(v, true), ClauseSolver.REFUSED);
            due.is("literal(" + v + ", false)", x.literal(v, false), ClauseSolver.REFUSED);
            due.is("count(2) after literal(" + v + ")", x.count(2), 1);
        }
        x.clause();
        due.is("answer() after refusals", x.answer(), 2);
        due.is("literal(16, true) of 16", new ClauseSolver(16).literal(16, true), ClauseSolver.REFUSED);
    }

    private static void goesOnWhenFull(Due due) {
        ClauseSolver x = new ClauseSolver(2);
        for (int k = 0; k < 400; k++) {
            x.some(3, 0);
        }
        due.is("literal(0, false) with 400", x.literal(0, false), 1);
        due.is("literal(1, false) with 400", x.literal(1, false), 2);
    }
}
