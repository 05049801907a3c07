/** The section 'Terms', and the sentence that says for how many calls an object is used. */
public final class TermsTest {
    private static final int CALLS = 512;

    public static void main(String[] args) {
        Due due = new Due();
        variablesAreFrom0ToNMinus1(due);
        clausesAreAtMost400(due);
        noClausesAtFirst(due);
        atLeastOneOfEachClause(due);
        namesNone(due);
        wishesAreFalseAtFirst(due);
        theFirstVariableDecides(due);
        theLastVariableDecides(due);
        theLastCallIsAnswered(due);
        due.end();
    }

    private static void variablesAreFrom0ToNMinus1(Due due) {
        due.under("N VARIABLES, 0 to N - 1, are true or false.");
        for (int n = 1; n <= 16; n++) {
            ClauseSolver x = new ClauseSolver(n);
            due.is("N " + n + ": literal(-1, true)", x.literal(-1, true), ClauseSolver.REFUSED);
            due.is("N " + n + ": literal(N, true)", x.literal(n, true), ClauseSolver.REFUSED);
            due.is("N " + n + ": literal(0, true)", x.literal(0, true), 1);
            due.is("N " + n + ": literal(N - 1, false)", x.literal(n - 1, false), 2);
            due.is("N " + n + ": answer(), all false", x.answer(), 0);
            Edges.wishAll(x, n, true);
            due.is("N " + n + ": answer(), all true", x.answer(), Edges.all(n));
        }
    }

    private static void clausesAreAtMost400(Due due) {
        due.under("CLAUSES, at most 400");
        for (int place : new int[] {0, 1, 200, 398, 399}) {
            ClauseSolver x = Edges.filled(16, place, 1, 0);
            due.is("some(32768, 0), clause " + place, x.some(32768, 0), place + 1);
            for (int k = place + 1; k < 400; k++) {
                x.some(1, 0);
            }
            due.is("count(1)", x.count(1), 400);
            due.is("some(2, 0), one too many", x.some(2, 0), ClauseSolver.FULL);
            due.is("clause(), one too many", x.clause(), ClauseSolver.FULL);
            due.is("count(1), as before", x.count(1), 400);
            due.is("answer() with clause " + place, x.answer(), 32769);
            due.is("drop(" + place + ")", x.drop(place), 399);
            due.is("answer() without it", x.answer(), 1);
        }
    }

    private static void noClausesAtFirst(Due due) {
        due.under("none at first");
        for (int n = 1; n <= 16; n++) {
            ClauseSolver x = new ClauseSolver(n);
            due.is("N " + n + ": count(1)", x.count(1), 0);
            due.is("N " + n + ": drop(0)", x.drop(0), ClauseSolver.NONE);
            due.is("N " + n + ": solve()", x.solve(), true);
            due.is("N " + n + ": answer()", x.answer(), 0);
        }
    }

    /** Of a clause that names all, one is enough, whichever it is, and none is too few. */
    private static void atLeastOneOfEachClause(Due due) {
        due.under("has, of each clause, at least one as that clause names it");
        for (int n = 1; n <= 16; n++) {
            int all = Edges.all(n);
            for (int v = 0; v < n; v++) {
                ClauseSolver x = new ClauseSolver(n);
                x.some(all, 0);
                shutAllBut(x, n, v, false);
                due.is("N " + n + ": answer(), just " + v + " true", x.answer(), 1 << v);
                x.some(0, 1 << v);
                due.is("N " + n + ": solve(), none true", x.solve(), false);

                x = new ClauseSolver(n);
                Edges.wishAll(x, n, true);
                x.some(0, all);
                shutAllBut(x, n, v, true);
                due.is("N " + n + ": answer(), just " + v + " false", x.answer(), all & ~(1 << v));
                x.some(1 << v, 0);
                due.is("N " + n + ": solve(), none false", x.solve(), false);
            }
        }
    }

    private static void shutAllBut(ClauseSolver x, int n, int v, boolean is) {
        for (int u = 0; u < n; u++) {
            if (u != v) {
                x.some(is ? 1 << u : 0, is ? 0 : 1 << u);
            }
        }
    }

    /** It stands first, amid or last among clauses that have answers. */
    private static void namesNone(Due due) {
        due.under("a clause that names none has no answer");
        for (int n = 1; n <= 16; n++) {
            for (int place = 0; place < 5; place++) {
                ClauseSolver x = Edges.filled(n, place, 1, 0);
                due.is("N " + n + ": clause() that names none", x.clause(), place + 1);
                for (int k = place + 1; k < 5; k++) {
                    x.some(1, 0);
                }
                due.is("N " + n + ": solve()", x.solve(), false);
                due.is("N " + n + ": answer()", x.answer(), ClauseSolver.NONE);
                Edges.wishAll(x, n, true);
                due.is("N " + n + ": answer(), all wished", x.answer(), ClauseSolver.NONE);
                x.drop(place);
                due.is("N " + n + ": answer() without it", x.answer(), Edges.all(n));
            }
        }
    }

    private static void wishesAreFalseAtFirst(Due due) {
        due.under("Each variable has a WISH, false at first.");
        for (int n = 1; n <= 16; n++) {
            for (int v = 0; v < n; v++) {
                due.is("N " + n + ": wish(" + v + ", true)", new ClauseSolver(n).wish(v, true), false);
                due.is("N " + n + ": wish(" + v + ", false)", new ClauseSolver(n).wish(v, false), false);
            }
            due.is("N " + n + ": answer()", new ClauseSolver(n).answer(), 0);
        }
    }

    /** All variables are alike, so that the two answers differ at each of them. */
    private static void theFirstVariableDecides(Due due) {
        due.under("has the wished value at the first variable, by numbers, at which they differ");
        for (int n = 1; n <= 16; n++) {
            ClauseSolver x = new ClauseSolver(n);
            for (int v = 1; v < n; v++) {
                x.some(1 << v, 1 << v - 1);
                x.some(1 << v - 1, 1 << v);
            }
            due.is("N " + n + ": answer(), none wished", x.answer(), 0);
            x.wish(0, true);
            due.is("N " + n + ": answer(), 0 wished alone", x.answer(), Edges.all(n));
            Edges.wishAll(x, n, true);
            due.is("N " + n + ": answer(), all wished", x.answer(), Edges.all(n));
            x.wish(0, false);
            due.is("N " + n + ": answer(), all but 0 wished", x.answer(), 0);
        }
    }

    /** All variables but one are held against their wishes: the one that is left decides. */
    private static void theLastVariableDecides(Due due) {
        due.under("at the first variable at which they differ, though it is any other");
        for (int n = 1; n <= 16; n++) {
            for (int v = 0; v < n; v++) {
                ClauseSolver x = new ClauseSolver(n);
                int others = Edges.all(n) & ~(1 << v);
                shutAllBut(x, n, v, true);
                due.is("N " + n + ": answer(), " + v + " wished false", x.answer(), others);
                x.wish(v, true);
                due.is("N " + n + ": answer(), " + v + " wished true", x.answer(), Edges.all(n));
            }
        }
    }

    /** What calls answer after the 512th is free, but none may fail to end. */
    private static void theLastCallIsAnswered(Due due) {
        due.under("An object is used for at most 512 calls after it has been made");
        for (int kind = 0; kind < 8; kind++) {
            ClauseSolver x = Edges.filled(16, 399, 32769, 0);
            x.literal(15, true);
            x.wish(3, true);
            for (int call = 401; call < CALLS - 1; call++) {
                x.answer();
            }
            lastCall(due, x, kind);
            for (int call = 0; call < CALLS; call++) {
                x.wish(call, true);
                x.literal(call, false);
                x.clause();
                x.some(call, ~call);
                x.answer();
            }
        }
    }

    private static void lastCall(Due due, ClauseSolver x, int kind) {
        switch (kind) {
            case 0 -> due.is("wish(3, false), the 512th call", x.wish(3, false), true);
            case 1 -> due.is("literal(15, false), the 512th call", x.literal(15, false), 2);
            case 2 -> due.is("clause(), the 512th call", x.clause(), 400);
            case 3 -> due.is("some(1, 0), the 512th call", x.some(1, 0), 400);
            case 4 -> due.is("drop(398), the 512th call", x.drop(398), 398);
            case 5 -> due.is("solve(), the 512th call", x.solve(), true);
            case 6 -> due.is("answer(), the 512th call", x.answer(), 32776);
            default -> due.is("count(1), the 512th call", x.count(1), 399);
        }
    }
}
