/** Promise 4: clause adds the made up clause and begins another; with 400 it stays. */
public final class Promise4ClauseTest {
    public static void main(String[] args) {
        Due due = new Due();
        addsAndBeginsAnother(due);
        tellsHowManyThereAre(due);
        addsOneThatNamesNone(due);
        addsOneWhoseNamesWereRefused(due);
        fullWith400(due);
        staysWhenFull(due);
        staysWithoutNamesWhenFull(due);
        due.end();
    }

    private static void addsAndBeginsAnother(Due due) {
        due.under("The clause that is made up is one more; another one is begun");
        ClauseSolver x = new ClauseSolver(9);
        x.literal(0, true);
        x.literal(8, true);
        due.is("clause()", x.clause(), 1);
        due.is("count(2)", x.count(2), 0);
        due.is("answer() of 0 or 8", x.answer(), 256);
        x.literal(8, false);
        due.is("clause(), second", x.clause(), 2);
        due.is("count(2), second", x.count(2), 0);
        due.is("answer() of 0 or 8, not 8", x.answer(), 1);
        x.literal(0, false);
        x.literal(4, true);
        due.is("clause(), third", x.clause(), 3);
        due.is("answer() with 4", x.answer(), 17);
        due.is("count(1)", x.count(1), 3);
    }

    private static void tellsHowManyThereAre(Due due) {
        due.under("how many there are");
        ClauseSolver x = new ClauseSolver(16);
        for (int k = 1; k <= 250; k++) {
            x.literal(k % 16, k % 32 < 16);
            due.is("clause(), number " + k, x.clause(), k);
        }
    }

    private static void addsOneThatNamesNone(Due due) {
        due.under("Also one that names none.");
        for (int n = 1; n <= 16; n++) {
            ClauseSolver x = new ClauseSolver(n);
            due.is("clause() that names none", x.clause(), 1);
            due.is("solve()", x.solve(), false);
            due.is("answer()", x.answer(), ClauseSolver.NONE);
            due.is("clause() that names none, again", x.clause(), 2);
            due.is("count(1)", x.count(1), 2);
            due.is("drop(0)", x.drop(0), 1);
            due.is("solve() with one", x.solve(), false);
            due.is("drop(0), the other", x.drop(0), 0);
            due.is("solve() with no clause", x.solve(), true);
        }
    }

    private static void addsOneWhoseNamesWereRefused(Due due) {
        due.under("Also one that names none, because all were refused.");
        for (int n = 1; n <= 16; n++) {
            ClauseSolver x = new ClauseSolver(n);
            for (int v : Edges.noVariables(n)) {
                x.literal(v, true);
                x.literal(v, false);
            }
            due.is("N " + n + ": clause()", x.clause(), 1);
            due.is("N " + n + ": answer()", x.answer(), ClauseSolver.NONE);
        }
    }

    private static void fullWith400(Due due) {
        due.under("FULL with 400");
        ClauseSolver x = Edges.filled(4, 398, 1, 0);
        x.literal(1, true);
        due.is("clause(), the 399th", x.clause(), 399);
        x.literal(2, true);
        due.is("clause(), the 400th", x.clause(), 400);
        x.literal(3, true);
        due.is("clause() with 400", x.clause(), ClauseSolver.FULL);
        due.is("clause() with 400, again", x.clause(), ClauseSolver.FULL);
        due.is("count(1)", x.count(1), 400);
        due.is("answer() without it", x.answer(), 7);
        due.is("drop(399)", x.drop(399), 399);
        due.is("clause() after a drop", x.clause(), 400);
        due.is("answer() with it", x.answer(), 11);
    }

    /** What stays is looked at by its number of names, and by the answers once there is room. */
    private static void staysWhenFull(Due due) {
        due.under("FULL with 400 (it stays then).");
        for (int v = 0; v < 16; v++) {
            ClauseSolver x = Edges.filled(16, 400, -1, -1);
            int other = (v + 7) % 16;
            x.literal(v, true);
            x.literal(other, false);
            due.is("clause() with 400", x.clause(), ClauseSolver.FULL);
            due.is("count(2), it stays", x.count(2), 2);
            due.is("literal(" + v + ", true), named already", x.literal(v, true), 2);
            due.is("literal(" + other + ", false), named already", x.literal(other, false), 2);
            x.wish(other, true);
            due.is("answer() without it", x.answer(), 1 << other);
            due.is("drop(0)", x.drop(0), 399);
            due.is("clause() after a drop", x.clause(), 400);
            due.is("count(2), another is begun", x.count(2), 0);
            int want = v < other ? 0 : 1 << v | 1 << other;
            due.is("answer() with " + v + " or not " + other, x.answer(), want);
        }
    }

    private static void staysWithoutNamesWhenFull(Due due) {
        due.under("FULL with 400 (it stays then), also one that names none.");
        ClauseSolver x = Edges.filled(4, 400, 1, 0);
        due.is("clause() that names none with 400", x.clause(), ClauseSolver.FULL);
        due.is("count(1)", x.count(1), 400);
        due.is("count(2)", x.count(2), 0);
        due.is("solve(), it is not there", x.solve(), true);
        due.is("literal(3, true)", x.literal(3, true), 1);
        x.drop(0);
        due.is("clause() after a drop", x.clause(), 400);
        due.is("answer() with it", x.answer(), 9);
    }
}
