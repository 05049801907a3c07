/** Promise 3: literal answers how many the made up clause names; both ways count twice. */
public final class Promise3LiteralTest {
    public static void main(String[] args) {
        Due due = new Due();
        noneNamedAtFirst(due);
        namesWhatItSays(due);
        bothCountTwice(due);
        sameAgainDoesNotCount(due);
        namesAll(due);
        refusesOthers(due);
        changesNothingForOthers(due);
        goesOnWhenFull(due);
        due.end();
    }

    private static void noneNamedAtFirst(Due due) {
        due.under("none named at first");
        for (int n = 1; n <= 16; n++) {
            ClauseSolver x = new ClauseSolver(n);
            due.is("N " + n + ": count(2)", x.count(2), 0);
            due.is("N " + n + ": clause()", x.clause(), 1);
            due.is("N " + n + ": solve(), it named none", x.solve(), false);
            for (int v = 0; v < n; v++) {
                due.is("N " + n + ": literal(" + v + ", true)", new ClauseSolver(n).literal(v, true), 1);
                due.is("N " + n + ": literal(" + v + ", false)", new ClauseSolver(n).literal(v, false), 1);
            }
        }
    }

    private static void namesWhatItSays(Due due) {
        due.under("The clause that is made up names a variable, as true or false");
        for (int n = 1; n <= 16; n++) {
            for (int v = 0; v < n; v++) {
                ClauseSolver x = new ClauseSolver(n);
                x.literal(v, true);
                due.is("answer() before clause()", x.answer(), 0);
                x.clause();
                due.is("answer() with " + v + " true", x.answer(), 1 << v);
                x.literal(v, false);
                x.clause();
                due.is("answer() with " + v + " both", x.answer(), ClauseSolver.NONE);
                x.drop(0);
                x.wish(v, true);
                due.is("answer() with " + v + " false", x.answer(), 0);
            }
        }
    }

    private static void bothCountTwice(Due due) {
        due.under("one that is named as both counts twice");
        for (int n = 1; n <= 16; n++) {
            for (int v = 0; v < n; v++) {
                for (int first = 0; first < 2; first++) {
                    ClauseSolver x = new ClauseSolver(n);
                    due.is("literal(" + v + "), one way", x.literal(v, first == 0), 1);
                    due.is("literal(" + v + "), the other", x.literal(v, first != 0), 2);
                    due.is("count(2)", x.count(2), 2);
                    x.clause();
                    due.is("answer(), it is met", x.answer(), 0);
                    x.wish(v, true);
                    due.is("answer(), it is met so too", x.answer(), 1 << v);
                }
            }
        }
    }

    private static void sameAgainDoesNotCount(Due due) {
        due.under("As the same again it does not count.");
        for (int n = 1; n <= 16; n++) {
            for (int v = 0; v < n; v++) {
                ClauseSolver x = new ClauseSolver(n);
                for (int time = 0; time < 3; time++) {
                    due.is("literal(" + v + ", true), time " + time, x.literal(v, true), 1);
                }
                for (int time = 0; time < 3; time++) {
                    due.is("literal(" + v + ", false), time " + time, x.literal(v, false), 2);
                }
                due.is("literal(" + v + ", true), once more", x.literal(v, true), 2);
                due.is("count(2)", x.count(2), 2);
                x.clause();
                due.is("literal(" + v + ", true), of the next", x.literal(v, true), 1);
                x.clause();
                due.is("answer(), it is still named", x.answer(), 1 << v);
            }
        }
    }

    private static void namesAll(Due due) {
        due.under("how many it names");
        for (int n = 1; n <= 16; n++) {
            ClauseSolver x = new ClauseSolver(n);
            for (int v = 0; v < n; v++) {
                due.is("N " + n + ": literal(" + v + ", true)", x.literal(v, true), v + 1);
            }
            for (int v = n - 1; v >= 0; v--) {
                due.is("N " + n + ": literal(" + v + ", false)", x.literal(v, false), 2 * n - v);
            }
            due.is("count(1)", x.count(1), 0);
            due.is("clause()", x.clause(), 1);
            due.is("literal(0, false), of the next", x.literal(0, false), 1);
        }
    }

    private static void refusesOthers(Due due) {
        due.under("REFUSED if there is no such variable.");
        for (int n = 1; n <= 16; n++) {
            for (int v : Edges.noVariables(n)) {
                ClauseSolver x = new ClauseSolver(n);
                String of = "N " + n + ": literal(" + v + ", ";
                due.is(of + "true)", x.literal(v, true), ClauseSolver.REFUSED);
                due.is(of + "false)", x.literal(v, false), ClauseSolver.REFUSED);
                x.literal(0, true);
                due.is(of + "true), with one named", x.literal(v, true), ClauseSolver.REFUSED);
                due.is(of + "false), with one named", x.literal(v, false), ClauseSolver.REFUSED);
            }
        }
    }

    private static void changesNothingForOthers(Due due) {
        due.under("REFUSED if there is no such variable: it names none then.");
        for (int n = 1; n <= 16; n++) {
            ClauseSolver x = new ClauseSolver(n);
            for (int v : Edges.noVariables(n)) {
                x.literal(v, true);
                x.literal(v, false);
                due.is("N " + n + ": count(2) after literal(" + v + ")", x.count(2), 0);
            }
            x.literal(n - 1, true);
            for (int v : Edges.noVariables(n)) {
                x.literal(v, true);
                x.literal(v, false);
                due.is("N " + n + ": count(2), 1 named, after literal(" + v + ")", x.count(2), 1);
            }
            due.is("N " + n + ": clause()", x.clause(), 1);
            due.is("N " + n + ": answer()", x.answer(), 1 << n - 1);
        }
    }

    private static void goesOnWhenFull(Due due) {
        due.under("The clause that is made up names a variable, with 400 clauses too");
        ClauseSolver x = Edges.filled(2, 400, 3, 0);
        due.is("literal(0, false) with 400", x.literal(0, false), 1);
        due.is("literal(1, false) with 400", x.literal(1, false), 2);
        due.is("literal(2, false) with 400", x.literal(2, false), ClauseSolver.REFUSED);
        due.is("count(1)", x.count(1), 400);
    }
}
