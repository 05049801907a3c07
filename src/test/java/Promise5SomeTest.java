/** Promise 5: some adds a clause out of bits; bits without a variable are left out. */
public final class Promise5SomeTest {
    public static void main(String[] args) {
        Due due = new Due();
        namesTheBits(due);
        takesThoseThatThereAre(due);
        leavesOutOthers(due);
        withNoneItHasNoAnswer(due);
        leavesTheMadeUpOne(due);
        tellsHowManyThereAre(due);
        fullWith400(due);
        leavesTheMadeUpOneWhenFull(due);
        due.end();
    }

    private static void namesTheBits(Due due) {
        due.under("A clause with the variables of bits of y as true and of n as false is one more");
        for (int n = 1; n <= 16; n++) {
            for (int v = 0; v < n; v++) {
                ClauseSolver x = new ClauseSolver(n);
                due.is("some(1 << " + v + ", 0)", x.some(1 << v, 0), 1);
                due.is("answer()", x.answer(), 1 << v);
                due.is("some(0, 1 << " + v + ")", x.some(0, 1 << v), 2);
                due.is("solve()", x.solve(), false);
                x.drop(0);
                x.wish(v, true);
                due.is("answer(), wished in vain", x.answer(), 0);
                due.is("some(1 << " + v + ", the same)", x.some(1 << v, 1 << v), 2);
                due.is("answer(), named as both", x.answer(), 0);
                x.drop(0);
                due.is("answer(), named as both alone", x.answer(), 1 << v);
            }
        }
    }

    /** With all 32 bits set, each variable that there is is named, and nothing else is. */
    private static void takesThoseThatThereAre(Due due) {
        due.under("those that there are");
        for (int n = 1; n <= 16; n++) {
            int all = Edges.all(n);
            ClauseSolver x = new ClauseSolver(n);
            due.is("N " + n + ": some(-1, 0)", x.some(-1, 0), 1);
            due.is("N " + n + ": answer(), one is true", x.answer(), 1 << n - 1);
            x.drop(0);
            due.is("N " + n + ": some(0, -1)", x.some(0, -1), 1);
            Edges.wishAll(x, n, true);
            due.is("N " + n + ": answer(), one is false", x.answer(), all >> 1);
            due.is("N " + n + ": some(-1, -1)", x.some(-1, -1), 2);
            x.drop(0);
            due.is("N " + n + ": answer() of some(-1, -1)", x.answer(), all);
        }
    }

    /** Each bit beyond the variables, on its own and beside a bit of one. */
    private static void leavesOutOthers(Due due) {
        due.under("others are left out");
        for (int n = 1; n <= 16; n++) {
            for (int bit = n; bit < 32; bit++) {
                ClauseSolver x = new ClauseSolver(n);
                int other = 1 << bit;
                due.is("N " + n + ": some(1 | 1 << " + bit + ", same)", x.some(1 | other, other), 1);
                due.is("N " + n + ": answer(), 0 is true", x.answer(), 1);
                due.is("N " + n + ": drop(0)", x.drop(0), 0);
                due.is("N " + n + ": some(same, 1 | 1 << " + bit + ")", x.some(other, 1 | other), 1);
                x.wish(0, true);
                due.is("N " + n + ": answer(), 0 is false", x.answer(), 0);
            }
        }
    }

    private static void withNoneItHasNoAnswer(Due due) {
        due.under("with none it has no answer");
        for (int n = 1; n <= 16; n++) {
            int beyond = -1 << n;
            int[][] pairs = {
                {0, 0}, {1 << n, 0}, {0, 1 << n}, {Edges.LOWEST, 0}, {0, Edges.LOWEST},
                {beyond, 0}, {0, beyond}, {beyond, beyond}
            };
            for (int[] pair : pairs) {
                ClauseSolver x = new ClauseSolver(n);
                String of = "N " + n + ", some(" + pair[0] + ", " + pair[1] + "): ";
                due.is(of + "itself", x.some(pair[0], pair[1]), 1);
                due.is(of + "solve()", x.solve(), false);
                due.is(of + "answer()", x.answer(), ClauseSolver.NONE);
                due.is(of + "some(1, 0)", x.some(1, 0), 2);
                due.is(of + "answer(), with another", x.answer(), ClauseSolver.NONE);
                due.is(of + "drop(0)", x.drop(0), 1);
                due.is(of + "answer() without it", x.answer(), 1);
            }
        }
    }

    private static void leavesTheMadeUpOne(Due due) {
        due.under("the one that is made up stays");
        for (int n = 1; n <= 16; n++) {
            ClauseSolver x = new ClauseSolver(n);
            due.is("some(1, 0), none named", x.some(1, 0), 1);
            due.is("count(2), none named", x.count(2), 0);
            x.literal(n - 1, true);
            x.literal(0, false);
            due.is("some(1, 0)", x.some(1, 0), 2);
            due.is("some(0, 0)", x.some(0, 0), 3);
            due.is("count(2)", x.count(2), 2);
            x.drop(2);
            due.is("answer()", x.answer(), 1);
            due.is("clause()", x.clause(), 3);
            due.is("answer() of both", x.answer(), 1 | 1 << n - 1);
        }
    }

    private static void tellsHowManyThereAre(Due due) {
        due.under("how many there are");
        ClauseSolver x = new ClauseSolver(16);
        for (int k = 1; k <= 400; k++) {
            due.is("some(65535, 0), number " + k, x.some(65535, 0), k);
        }
    }

    private static void fullWith400(Due due) {
        due.under("FULL with 400.");
        ClauseSolver x = Edges.filled(16, 399, 65535, 0);
        due.is("some(65535, 0), the 400th", x.some(65535, 0), 400);
        due.is("some(0, 0) with 400", x.some(0, 0), ClauseSolver.FULL);
        due.is("some(1, 0) with 400", x.some(1, 0), ClauseSolver.FULL);
        due.is("some(65536, 65536) with 400", x.some(65536, 65536), ClauseSolver.FULL);
        due.is("count(1)", x.count(1), 400);
        due.is("answer()", x.answer(), 32768);
        due.is("drop(399)", x.drop(399), 399);
        due.is("answer() after a drop", x.answer(), 32768);
        due.is("some(1, 0) after a drop", x.some(1, 0), 400);
        due.is("some(2, 0), full again", x.some(2, 0), ClauseSolver.FULL);
        due.is("answer() after it", x.answer(), 1);
    }

    private static void leavesTheMadeUpOneWhenFull(Due due) {
        due.under("the one that is made up stays, FULL with 400 too");
        ClauseSolver x = Edges.filled(16, 400, 65535, 0);
        x.literal(7, true);
        x.literal(12, false);
        due.is("some(1, 2) with 400", x.some(1, 2), ClauseSolver.FULL);
        due.is("count(2)", x.count(2), 2);
        due.is("literal(7, true), named already", x.literal(7, true), 2);
        due.is("literal(12, false), named already", x.literal(12, false), 2);
    }
}
