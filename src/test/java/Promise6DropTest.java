/** Promise 6: drop takes clause k away, and the last one takes its number. */
public final class Promise6DropTest {
    public static void main(String[] args) {
        Due due = new Due();
        lastOneTakesTheNumber(due);
        lastOneMayNameFalse(due);
        dropsFromTheFullRow(due);
        answersNoneForOthers(due);
        due.end();
    }

    private static void lastOneTakesTheNumber(Due due) {
        for (int shift = 0; shift <= 12; shift += 4) {
            ClauseSolver x = new ClauseSolver(16);
            for (int v = 0; v < 4; v++) {
                x.some(1 << (shift + v), 0);
            }
            due.is("answer() of four", x.answer(), 15 << shift);
            due.is("drop(0)", x.drop(0), 3);
            due.is("answer() of 3 1 2", x.answer(), 14 << shift);
            due.is("drop(0), that was 3", x.drop(0), 2);
            due.is("answer() of 2 1", x.answer(), 6 << shift);
            due.is("drop(1), the last", x.drop(1), 1);
            due.is("answer() of 2", x.answer(), 4 << shift);
            due.is("drop(0), the only one", x.drop(0), 0);
            due.is("answer() of none", x.answer(), 0);
            due.is("drop(0) without a clause", x.drop(0), ClauseSolver.NONE);
            due.is("some after all that", x.some(0, 1), 1);
        }
    }

    private static void lastOneMayNameFalse(Due due) {
        for (int v = 1; v < 16; v++) {
            ClauseSolver x = new ClauseSolver(16);
            x.wish(v, true);
            x.some(1, 0);
            x.some(0, 1 << v);
            due.is("answer() of 0, not " + v, x.answer(), 1);
            due.is("drop(0)", x.drop(0), 1);
            due.is("answer() of not " + v, x.answer(), 0);
            due.is("drop(0), the only one", x.drop(0), 0);
            due.is("answer() of none", x.answer(), 1 << v);
        }
    }

    private static void dropsFromTheFullRow(Due due) {
        ClauseSolver x = new ClauseSolver(16);
        for (int k = 0; k < 399; k++) {
            x.some(1, 0);
        }
        x.some(2, 0);
        due.is("drop(400)", x.drop(400), ClauseSolver.NONE);
        due.is("drop(0)", x.drop(0), 399);
        due.is("answer()", x.answer(), 3);
        due.is("drop(0), that was 399", x.drop(0), 398);
        due.is("answer() without it", x.answer(), 1);
    }

    private static void answersNoneForOthers(Due due) {
        ClauseSolver x = new ClauseSolver(8);
        x.literal(1, true);
        x.some(1, 0);
        x.some(128, 0);
        int[] none = {2, 3, 399, 400, 401, -1, -2, Integer.MIN_VALUE, Integer.MAX_VALUE};
        for (int k : none) {
            due.is("drop(" + k + ")", x.drop(k), ClauseSolver.NONE);
            due.is("count(1) after drop(" + k + ")", x.count(1), 2);
            due.is("answer() after drop(" + k + ")", x.answer(), 129);
        }
        x.drop(1);
        due.is("count(2), the made up one stays", x.count(2), 1);
    }
}
