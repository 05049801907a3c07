import java.util.ArrayList;
import java.util.List;

/** The document in its plainest words: every way to set the variables is looked at. */
final class PlainSolver {
    private final int variables;
    private final boolean[] wishes;
    private boolean[][] madeUp;
    private final List<boolean[][]> clauses = new ArrayList<>();

    PlainSolver(int variables) {
        this.variables = variables < 1 ? 1 : variables > 16 ? 16 : variables;
        wishes = new boolean[this.variables];
        madeUp = noNames();
    }

    boolean wish(int v, boolean is) {
        if (v < 0 || v >= variables) {
            return false;
        }
        boolean before = wishes[v];
        wishes[v] = is;
        return before;
    }

    int literal(int v, boolean is) {
        if (v < 0 || v >= variables) {
            return -1;
        }
        madeUp[is ? 1 : 0][v] = true;
        return count(2);
    }

    int clause() {
        if (clauses.size() == 400) {
            return -3;
        }
        clauses.add(madeUp);
        madeUp = noNames();
        return clauses.size();
    }

    int some(int y, int n) {
        if (clauses.size() == 400) {
            return -3;
        }
        boolean[][] names = noNames();
        for (int v = 0; v < variables; v++) {
            names[1][v] = (y >> v & 1) == 1;
            names[0][v] = (n >> v & 1) == 1;
        }
        clauses.add(names);
        return clauses.size();
    }

    int drop(int k) {
        if (k < 0 || k >= clauses.size()) {
            return -2;
        }
        boolean[][] last = clauses.remove(clauses.size() - 1);
        if (k < clauses.size()) {
            clauses.set(k, last);
        }
        return clauses.size();
    }

    boolean solve() {
        return answer() != -2;
    }

    int answer() {
        int first = -2;
        for (int way = 0; way < 1 << variables; way++) {
            if ((first == -2 || comesBefore(way, first)) && isAnswer(way)) {
                first = way;
            }
        }
        return first;
    }

    int count(int what) {
        if (what == 2) {
            int named = 0;
            for (int v = 0; v < variables; v++) {
                named += (madeUp[0][v] ? 1 : 0) + (madeUp[1][v] ? 1 : 0);
            }
            return named;
        }
        return what == 0 ? variables : what == 1 ? clauses.size() : -1;
    }

    private boolean[][] noNames() {
        return new boolean[2][variables];
    }

    private boolean comesBefore(int way, int other) {
        for (int v = 0; v < variables; v++) {
            int is = way >> v & 1;
            if (is != (other >> v & 1)) {
                return (is == 1) == wishes[v];
            }
        }
        return false;
    }

    private boolean isAnswer(int way) {
        for (boolean[][] names : clauses) {
            boolean met = false;
            for (int v = 0; v < variables && !met; v++) {
                met = names[way >> v & 1][v];
            }
            if (!met) {
                return false;
            }
        }
        return true;
    }
}
