/** Promise 8: the answer that has the wished value at the first variable where two differ. */
public final class Promise8AnswerTest {
    public static void main(String[] args) {
        Due due = new Due();
        lowerNumbersGoFirst(due);
        countsThroughAll(due);
        answersNone(due);
        due.end();
    }

    private static void lowerNumbersGoFirst(Due due) {
        for (int n = 2; n <= 16; n++) {
            for (int v = 0; v + 1 < n; v++) {
                ClauseSolver x = new ClauseSolver(n);
                int pair = 3 << v;
                x.some(pair, 0);
                due.is("answer() of one of two, none wished", x.answer(), 2 << v);
                x.some(0, pair);
                x.wish(v, true);
                x.wish(v + 1, true);
                due.is("answer() of just one, both wished", x.answer(), 1 << v);
                x.wish(v, false);
                due.is("answer() of just one, the second wished", x.answer(), 2 << v);
                x.wish(v + 1, false);
                due.is("answer() of just one, none wished", x.answer(), 2 << v);
                x.wish(v, true);
                due.is("answer() of just one, the first wished", x.answer(), 1 << v);
            }
        }
    }

    /** Each answer is shut out when it has been told: all come, once each and in their order. */
    private static void countsThroughAll(Due due) {
        for (int n = 1; n <= 7; n++) {
            for (int wishes = 0; wishes < 1 << n; wishes += 3) {
                ClauseSolver x = new ClauseSolver(n);
                for (int v = 0; v < n; v++) {
                    x.wish(v, (wishes >> v & 1) != 0);
                }
                for (int place = 0; place < 1 << n; place++) {
                    int want = Integer.reverse(place) >>> 32 - n ^ wishes;
                    due.is("N " + n + ", wishes " + wishes + ": answer() " + place, x.answer(), want);
                    x.some(~want, want);
                }
                due.is("answer() after all", x.answer(), ClauseSolver.NONE);
            }
        }
    }

    private static void answersNone(Due due) {
        for (int n = 1; n <= 16; n++) {
            for (int v = 0; v < n; v++) {
                ClauseSolver x = new ClauseSolver(n);
                x.some(1 << v, 0);
                x.some(0, 1 << v);
                due.is("answer() of " + v + " as both", x.answer(), ClauseSolver.NONE);
                x.wish(v, true);
                due.is("answer() of " + v + " as both, wished", x.answer(), ClauseSolver.NONE);
                x.drop(1);
                due.is("answer() of " + v + " as true", x.answer(), 1 << v);
            }
        }
    }
}
