/** Promise 5: some adds a clause out of bits; bits without a variable are left out. */
public final class Promise5SomeTest {
    public static void main(String[] args) {
        Due due = new Due();
        namesTheBits(due);
        leavesOutOthers(due);
        leavesTheMadeUpOne(due);
        refusesWhenFull(due);
        due.end();
    }

    private static void namesTheBits(Due due) {
        for (int n = 1; n <= 16; n++) {
            for (int v = 0; v < n; v++) {
                ClauseSolver x = new ClauseSolver(n);
                due.is("some(1 << " + v + ", 0)", x.some(1 << v, 0), 1);
                due.is("answer()", x.answer(), 1 << v);
                due.is("some(0, 1 << " + v + ")", x.some(0, 1 << v), 2);
                due.is("solve()", x.solve(), false);
                x.drop(0);
                x.wish(v, true);
                due.is("answer(), wished in vain", x.answer(), 0);
                due.is("some(1 << " + v + ", the same)", x.some(1 << v, 1 << v), 2);
                due.is("answer(), named as both", x.answer(), 0);
                x.drop(0);
                due.is("answer(), named as both alone", x.answer(), 1 << v);
            }
        }
    }

    private static void leavesOutOthers(Due due) {
        for (int n = 1; n <= 16; n++) {
            int beyond = -1 << n;
            ClauseSolver x = new ClauseSolver(n);
            due.is("some(beyond, beyond)", x.some(beyond, beyond), 1);
            due.is("solve(), it names none", x.solve(), false);
            due.is("drop(0)", x.drop(0), 0);
            due.is("some(beyond, 1)", x.some(beyond, 1), 1);
            x.wish(0, true);
            due.is("answer(), 0 is false", x.answer(), 0);
            due.is("some(1, beyond)", x.some(1, beyond), 2);
            due.is("solve(), 0 is both", x.solve(), false);
        }
        ClauseSolver x = new ClauseSolver(3);
        x.some(-1, 0);
        due.is("answer() of some(-1, 0)", x.answer(), 4);
        x.some(0, 0);
        due.is("answer() of some(0, 0)", x.answer(), ClauseSolver.NONE);
    }

    private static void leavesTheMadeUpOne(Due due) {
        ClauseSolver x = new ClauseSolver(16);
        x.literal(15, true);
        x.literal(2, false);
        due.is("some(1, 0)", x.some(1, 0), 1);
        due.is("count(2)", x.count(2), 2);
        due.is("answer()", x.answer(), 1);
        x.wish(2, true);
        due.is("clause()", x.clause(), 2);
        due.is("answer() of both", x.answer(), 1 | 4 | 32768);
    }

    private static void refusesWhenFull(Due due) {
        ClauseSolver x = new ClauseSolver(16);
        for (int k = 1; k <= 400; k++) {
            due.is("some(65535, 0), number " + k, x.some(65535, 0), k);
        }
        x.literal(0, true);
        due.is("some(0, 0) with 400", x.some(0, 0), ClauseSolver.FULL);
        due.is("some(1, 0) with 400", x.some(1, 0), ClauseSolver.FULL);
        due.is("count(1)", x.count(1), 400);
        due.is("count(2)", x.count(2), 1);
        due.is("answer()", x.answer(), 32768);
        due.is("drop(399)", x.drop(399), 399);
        due.is("some(1, 0) after a drop", x.some(1, 0), 400);
        due.is("answer() after it", x.answer(), 1);
    }
}
