import java.util.ArrayList;
import java.util.List;
import java.util.function.Predicate;

/**
 * The document's terms word for word: every row is laid out and looked at. It shares no thought
 * with the class that it is held against.
 */
final class Literal {
    record Operation(int user, int cell, boolean isWrite, int source) {
    }

    final List<Operation> operations = new ArrayList<>();

    Literal() {
    }

    private Literal(Literal other, Operation more) {
        operations.addAll(other.operations);
        operations.add(more);
    }

    int write(int user, int cell) {
        if (user < 0 || user > 2 || cell < 0 || cell > 1 || operations.size() == 7) {
            return -1;
        }
        operations.add(new Operation(user, cell, true, -1));
        return operations.size() - 1;
    }

    int read(int user, int cell, int source) {
        if (user < 0 || user > 2 || cell < 0 || cell > 1 || operations.size() == 7 || !mayName(cell, source)) {
            return -1;
        }
        operations.add(new Operation(user, cell, false, source));
        return operations.size() - 1;
    }

    int back() {
        if (operations.isEmpty()) {
            return -1;
        }
        operations.remove(operations.size() - 1);
        return operations.size();
    }

    int before(int a, int b) {
        return !held(a) || !held(b) ? -1 : order()[a][b] ? 1 : 0;
    }

    int weak(int b) {
        if (!held(b)) {
            return -1;
        }
        return operations.get(b).isWrite || anyRow(past(b), row -> right(row, b)) ? 1 : 0;
    }

    int strong(int b) {
        if (!held(b)) {
            return -1;
        }
        return anyRow(past(b), row -> allReadsRight(row, operations.get(b).user)) ? 1 : 0;
    }

    int sound() {
        int weak = 1;
        int strong = 2;
        for (int b = 0; b < operations.size(); b++) {
            weak = weak(b) == 1 ? weak : 0;
            strong = strong(b) == 1 ? strong : 0;
        }
        return weak + strong + (converges() ? 4 : 0);
    }

    int choices(int user, int cell) {
        if (user < 0 || user > 2 || cell < 0 || cell > 1) {
            return -1;
        }
        int sum = 0;
        for (int source = -1; source < operations.size(); source++) {
            if (mayName(cell, source) && new Literal(this, new Operation(user, cell, false, source)).converges()) {
                sum += source == -1 ? 128 : 1 << source;
            }
        }
        return sum;
    }

    private boolean held(int operation) {
        return operation >= 0 && operation < operations.size();
    }

    boolean mayName(int cell, int source) {
        return source == -1
                || held(source) && operations.get(source).isWrite && operations.get(source).cell == cell;
    }

    private boolean[][] order() {
        int n = operations.size();
        boolean[][] before = new boolean[n][n];
        for (int a = 0; a < n; a++) {
            for (int b = 0; b < n; b++) {
                Operation later = operations.get(b);
                before[a][b] = operations.get(a).user == later.user && a < b || !later.isWrite && later.source == a;
            }
        }
        for (int c = 0; c < n; c++) {
            for (int a = 0; a < n; a++) {
                for (int b = 0; b < n; b++) {
                    before[a][b] |= before[a][c] && before[c][b];
                }
            }
        }
        return before;
    }

    private List<Integer> past(int b) {
        boolean[][] before = order();
        List<Integer> past = new ArrayList<>();
        for (int a = 0; a < operations.size(); a++) {
            if (a == b || before[a][b]) {
                past.add(a);
            }
        }
        return past;
    }

    private boolean anyRow(List<Integer> of, Predicate<List<Integer>> wanted) {
        return anyRow(new ArrayList<>(), of, order(), wanted);
    }

    private boolean anyRow(List<Integer> row, List<Integer> of, boolean[][] before, Predicate<List<Integer>> wanted) {
        if (row.size() == of.size()) {
            return wanted.test(row);
        }
        for (int next : of) {
            boolean fits = !row.contains(next);
            for (int earlier : row) {
                fits = fits && !before[next][earlier];
            }
            if (fits) {
                row.add(next);
                boolean found = anyRow(row, of, before, wanted);
                row.remove(row.size() - 1);
                if (found) {
                    return true;
                }
            }
        }
        return false;
    }

    private boolean right(List<Integer> row, int reader) {
        int last = -1;
        for (int o : row) {
            if (o == reader) {
                break;
            }
            if (operations.get(o).isWrite && operations.get(o).cell == operations.get(reader).cell) {
                last = o;
            }
        }
        return last == operations.get(reader).source;
    }

    private boolean allReadsRight(List<Integer> row, int user) {
        for (int o : row) {
            if (!operations.get(o).isWrite && operations.get(o).user == user && !right(row, o)) {
                return false;
            }
        }
        return true;
    }

    private boolean converges() {
        List<Integer> writes = new ArrayList<>();
        for (int o = 0; o < operations.size(); o++) {
            if (operations.get(o).isWrite) {
                writes.add(o);
            }
        }
        boolean[][] before = order();
        return anyRow(writes, row -> agreesWithAllReads(row, before));
    }

    private boolean agreesWithAllReads(List<Integer> row, boolean[][] before) {
        for (int r = 0; r < operations.size(); r++) {
            Operation reader = operations.get(r);
            if (!reader.isWrite) {
                int last = -1;
                for (int w : row) {
                    if (operations.get(w).cell == reader.cell && before[w][r]) {
                        last = w;
                    }
                }
                if (last != reader.source) {
                    return false;
                }
            }
        }
        return true;
    }
}
