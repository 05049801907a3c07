/** The dearest searches that 512 calls can ask for: they must end soon, and with the right answer. */
public final class HardRunsTest {
    public static void main(String[] args) {
        Due due = new Due();
        contradictionStandsLate(due);
        oddAndEven(due);
        onlyTheLastIsLeft(due);
        due.end();
    }

    /** No clause speaks before variable 9 is set, and they contradict each other only then. */
    private static void contradictionStandsLate(Due due) {
        ClauseSolver x = new ClauseSolver(16);
        for (int k = 0; k < 255; k++) {
            x.some(1 << 9, 0);
        }
        x.some(0, 1 << 9);
        for (int call = 0; call < 255; call++) {
            due.is("solve(), " + call, x.solve(), false);
        }
        due.is("drop(255)", x.drop(255), 255);
    }

    /** Six variables have an odd number of true ones by 32 clauses, and an even one by 32. */
    private static void oddAndEven(Due due) {
        for (int shift = 0; shift <= 10; shift++) {
            ClauseSolver x = new ClauseSolver(16);
            for (int way = 0; way < 64; way++) {
                due.is("solve() before way " + way, x.solve(), true);
                int shut = way < 32 ? evenOne(way) : evenOne(way) ^ 32;
                x.some((63 & ~shut) << shift, shut << shift);
            }
            due.is("solve() of odd and even", x.solve(), false);
            x.drop(63);
            due.is("solve() with one way left", x.solve(), true);
        }
    }

    /** Number way of the 32 sets of six that have an even number in them. */
    private static int evenOne(int way) {
        int low = way & 31;
        return low | (Integer.bitCount(low) & 1) << 5;
    }

    /** Each variable is to be true, told so late in the row, and each is wished false. */
    private static void onlyTheLastIsLeft(Due due) {
        ClauseSolver x = new ClauseSolver(16);
        for (int k = 0; k < 384; k++) {
            x.some(0xC000, 0);
        }
        for (int v = 15; v >= 0; v--) {
            x.some(1 << v, v < 15 ? 2 << v : 0);
        }
        for (int call = 0; call < 100; call++) {
            due.is("answer(), " + call, x.answer(), 65535);
        }
    }
}
