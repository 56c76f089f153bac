import java.util.Arrays;

/**
 * A history that an object can be brought to as often as a test needs one, so that no object is
 * used for more than 512 calls. Those in AT_EDGES hold nothing, all that can be held, and between.
 */
final class History {
    /** Stands in the place of a source: the operation is a write. */
    static final int WRITE = -2;

    static final History EMPTY = new History("nothing held");
    static final History ONE_WRITE = new History("one write held", w(2, 1));
    static final History ONE_READ = new History("one read held", r(0, 0, -1));
    static final History LOST = new History("two held that do not converge", w(0, 0), r(0, 0, -1));
    static final History SIX = new History("six held",
            w(0, 0), w(1, 1), r(2, 0, 0), r(0, 1, 1), w(2, 0), r(1, 0, 4));
    static final History SEVEN = new History("seven held",
            w(0, 0), w(1, 1), r(2, 0, 0), r(0, 1, 1), w(2, 0), r(1, 0, 4), w(0, 1));
    static final History SEVEN_WRITES = new History("seven writes held",
            w(0, 0), w(0, 0), w(1, 0), w(1, 1), w(2, 1), w(2, 0), w(2, 1));
    static final History SEVEN_READS = new History("seven reads held",
            r(0, 0, -1), r(0, 1, -1), r(1, 0, -1), r(1, 1, -1), r(2, 0, -1), r(2, 1, -1), r(0, 0, -1));
    static final History SEVEN_LOST = new History("seven held that do not converge",
            w(0, 0), w(1, 0), r(0, 0, 1), r(1, 0, 0), w(2, 1), r(0, 1, 4), r(2, 1, -1));

    static final History[] AT_EDGES = {
        EMPTY, ONE_WRITE, ONE_READ, LOST, SIX, SEVEN, SEVEN_WRITES, SEVEN_READS, SEVEN_LOST,
    };

    final String name;
    private final int[][] operations;

    History(String name, int[]... operations) {
        this.name = name;
        this.operations = operations;
    }

    static int[] w(int user, int cell) {
        return new int[] {user, cell, WRITE};
    }

    static int[] r(int user, int cell, int source) {
        return new int[] {user, cell, source};
    }

    int size() {
        return operations.length;
    }

    History first(int n) {
        return new History("the first " + n + " of " + name, Arrays.copyOf(operations, n));
    }

    CausalCheck made() {
        CausalCheck x = new CausalCheck();
        for (int i = 0; i < operations.length; i++) {
            Due.is("operation " + i + " of " + name, add(x, operations[i]), i);
        }
        return x;
    }

    static int add(CausalCheck x, int[] operation) {
        boolean isWrite = operation[2] == WRITE;
        return isWrite ? x.write(operation[0], operation[1]) : x.read(operation[0], operation[1], operation[2]);
    }
}
