/** Promise 8: the answer that has the wished value at the first variable where two differ. */
public final class Promise8AnswerTest {
    public static void main(String[] args) {
        Due due = new Due();
        withNoClause(due);
        bitsOfTheVariables(due);
        lowerNumbersGoFirst(due);
        countsThroughAll(due);
        noneWithOneThatNamesNone(due);
        noneWithoutAnAnswer(due);
        changesNothing(due);
        due.end();
    }

    /** Without a clause each wish is met, so the answer is the wishes. */
    private static void withNoClause(Due due) {
        due.under("The answer that comes first: with no clause");
        for (int n = 1; n <= 16; n++) {
            for (int wishes = 0; wishes < 1 << n; wishes += 1 + (1 << n) / 64) {
                ClauseSolver x = new ClauseSolver(n);
                wish(x, n, wishes);
                due.is("N " + n + ": answer(), wishes " + wishes, x.answer(), wishes);
            }
            ClauseSolver x = new ClauseSolver(n);
            due.is("N " + n + ": answer(), none wished", x.answer(), 0);
            Edges.wishAll(x, n, true);
            due.is("N " + n + ": answer(), all wished", x.answer(), Edges.all(n));
        }
    }

    private static void wish(ClauseSolver x, int n, int wishes) {
        for (int v = 0; v < n; v++) {
            x.wish(v, (wishes >> v & 1) != 0);
        }
    }

    /** Just one answer is left, and each wish is against it. */
    private static void bitsOfTheVariables(Due due) {
        due.under("bit v 1 for a variable that is true");
        for (int n = 1; n <= 16; n++) {
            for (int v = 0; v < n; v++) {
                oneIsLeft(due, n, 1 << v);
                oneIsLeft(due, n, Edges.all(n) & ~(1 << v));
            }
            oneIsLeft(due, n, 0);
            oneIsLeft(due, n, Edges.all(n));
        }
    }

    private static void oneIsLeft(Due due, int n, int way) {
        ClauseSolver x = new ClauseSolver(n);
        wish(x, n, ~way);
        for (int v = 0; v < n; v++) {
            x.some(way & 1 << v, ~way & 1 << v);
        }
        due.is("N " + n + ": answer(), only " + way + " is left", x.answer(), way);
    }

    private static void lowerNumbersGoFirst(Due due) {
        due.under("The answer that comes first: the lower number decides");
        for (int n = 2; n <= 16; n++) {
            for (int v = 0; v + 1 < n; v++) {
                ClauseSolver x = new ClauseSolver(n);
                int pair = 3 << v;
                x.some(pair, 0);
                due.is("answer() of one of two, none wished", x.answer(), 2 << v);
                x.some(0, pair);
                x.wish(v, true);
                x.wish(v + 1, true);
                due.is("answer() of just one, both wished", x.answer(), 1 << v);
                x.wish(v, false);
                due.is("answer() of just one, the second wished", x.answer(), 2 << v);
                x.wish(v + 1, false);
                due.is("answer() of just one, none wished", x.answer(), 2 << v);
                x.wish(v, true);
                due.is("answer() of just one, the first wished", x.answer(), 1 << v);
            }
        }
    }

    /** Each answer is shut out when it has been told: all come, once each and in their order. */
    private static void countsThroughAll(Due due) {
        due.under("The answer that comes first: all of them, one after another");
        for (int n = 1; n <= 7; n++) {
            for (int wishes = 0; wishes < 1 << n; wishes += 3) {
                ClauseSolver x = new ClauseSolver(n);
                wish(x, n, wishes);
                for (int place = 0; place < 1 << n; place++) {
                    int want = Integer.reverse(place) >>> 32 - n ^ wishes;
                    due.is("N " + n + ", wishes " + wishes + ": answer() " + place, x.answer(), want);
                    x.some(~want, want);
                }
                due.is("answer() after all", x.answer(), ClauseSolver.NONE);
            }
        }
    }

    private static void noneWithOneThatNamesNone(Due due) {
        due.under("NONE if there is none: with a clause that names none");
        for (int n = 1; n <= 16; n++) {
            ClauseSolver x = new ClauseSolver(n);
            x.clause();
            due.is("N " + n + ": answer() with clause()", x.answer(), ClauseSolver.NONE);
            x.drop(0);
            due.is("N " + n + ": answer() without it", x.answer(), 0);
            x.some(-1, -1);
            x.some(0, 0);
            due.is("N " + n + ": answer() with some(0, 0)", x.answer(), ClauseSolver.NONE);
            Edges.wishAll(x, n, true);
            due.is("N " + n + ": answer(), all wished", x.answer(), ClauseSolver.NONE);
            x.drop(1);
            due.is("N " + n + ": answer() with the other alone", x.answer(), Edges.all(n));
        }
    }

    private static void noneWithoutAnAnswer(Due due) {
        due.under("NONE if there is none: with no answer");
        for (int n = 1; n <= 16; n++) {
            for (int v = 0; v < n; v++) {
                ClauseSolver x = new ClauseSolver(n);
                x.some(1 << v, 0);
                x.some(0, 1 << v);
                due.is("answer() of " + v + " as both", x.answer(), ClauseSolver.NONE);
                x.wish(v, true);
                due.is("answer() of " + v + " as both, wished", x.answer(), ClauseSolver.NONE);
                x.drop(1);
                due.is("answer() of " + v + " as true", x.answer(), 1 << v);
            }
        }
    }

    private static void changesNothing(Due due) {
        due.under("The answer that comes first: answer changes nothing");
        ClauseSolver x = new ClauseSolver(9);
        x.some(3, 0);
        x.literal(2, true);
        x.wish(8, true);
        for (int time = 0; time < 3; time++) {
            due.is("answer()", x.answer(), 258);
            due.is("count(1)", x.count(1), 1);
            due.is("count(2)", x.count(2), 1);
            due.is("wish(8, true), still wished", x.wish(8, true), true);
        }
    }
}
