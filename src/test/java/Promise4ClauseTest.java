/** Promise 4: clause adds the made up clause and begins another; with 400 it stays. */
public final class Promise4ClauseTest {
    public static void main(String[] args) {
        Due due = new Due();
        addsAndBeginsAnother(due);
        addsOneThatNamesNone(due);
        staysWhenFull(due);
        due.end();
    }

    private static void addsAndBeginsAnother(Due due) {
        ClauseSolver x = new ClauseSolver(9);
        x.literal(0, true);
        x.literal(8, true);
        due.is("clause()", x.clause(), 1);
        due.is("count(2)", x.count(2), 0);
        due.is("answer() of 0 or 8", x.answer(), 256);
        x.literal(8, false);
        due.is("clause(), second", x.clause(), 2);
        due.is("answer() of 0 or 8, not 8", x.answer(), 1);
        x.literal(0, false);
        x.literal(4, true);
        due.is("clause(), third", x.clause(), 3);
        due.is("answer() with 4", x.answer(), 17);
        due.is("count(1)", x.count(1), 3);
    }

    private static void addsOneThatNamesNone(Due due) {
        for (int n = 1; n <= 16; n++) {
            ClauseSolver x = new ClauseSolver(n);
            due.is("clause() that names none", x.clause(), 1);
            due.is("solve()", x.solve(), false);
            due.is("answer()", x.answer(), ClauseSolver.NONE);
            due.is("clause() that names none, again", x.clause(), 2);
            due.is("drop(0)", x.drop(0), 1);
            due.is("solve() with one", x.solve(), false);
            due.is("drop(0), the other", x.drop(0), 0);
            due.is("solve() with no clause", x.solve(), true);
        }
    }

    private static void staysWhenFull(Due due) {
        ClauseSolver x = new ClauseSolver(4);
        for (int k = 1; k <= 400; k++) {
            x.some(1, 0);
        }
        x.drop(7);
        x.literal(1, true);
        due.is("clause(), the 400th", x.clause(), 400);
        x.literal(2, true);
        x.literal(2, false);
        x.literal(3, true);
        due.is("clause() with 400", x.clause(), ClauseSolver.FULL);
        due.is("clause() with 400, again", x.clause(), ClauseSolver.FULL);
        due.is("count(1)", x.count(1), 400);
        due.is("count(2), it stays", x.count(2), 3);
        due.is("answer() without it", x.answer(), 3);
        x.drop(0);
        x.literal(0, false);
        due.is("count(2), one more", x.count(2), 4);
        due.is("clause() after a drop", x.clause(), 400);
        due.is("count(2), begun again", x.count(2), 0);
        due.is("clause() that names none with 400", x.clause(), ClauseSolver.FULL);
        due.is("solve()", x.solve(), true);
    }
}
