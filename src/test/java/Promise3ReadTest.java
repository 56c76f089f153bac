/** Promise 3: read. */
public final class Promise3ReadTest {
    public static void main(String[] args) {
        CausalCheck x = new CausalCheck();
        Due.is("read(0, 0, -1)", x.read(0, 0, -1), 0);
        Due.is("write(0, 0)", x.write(0, 0), 1);
        Due.is("write(1, 1)", x.write(1, 1), 2);
        Due.is("read(2, 0, 1)", x.read(2, 0, 1), 3);
        Due.is("read(2, 1, 2)", x.read(2, 1, 2), 4);
        String five = Due.view(x);
        int[][] refused = {
            {-1, 0, -1}, {3, 0, -1}, {Integer.MIN_VALUE, 0, 1}, {Integer.MAX_VALUE, 0, 1},
            {0, -1, -1}, {0, 2, -1}, {0, Integer.MIN_VALUE, -1}, {0, Integer.MAX_VALUE, -1},
            {0, 0, -2}, {0, 0, 5}, {0, 0, 6}, {0, 0, 7}, {0, 0, 8},
            {0, 0, Integer.MIN_VALUE}, {0, 0, Integer.MAX_VALUE},
            {0, 0, 2}, {0, 1, 1}, // a write about the other cell
            {0, 0, 0}, {0, 0, 3}, {0, 1, 4}, // a read is no source
        };
        for (int[] call : refused) {
            Due.is("read(" + call[0] + ", " + call[1] + ", " + call[2] + ")", x.read(call[0], call[1], call[2]), -1);
        }
        Due.same("refused reads", Due.view(x), five);
        Due.is("read(2, 1, -1)", x.read(2, 1, -1), 5);
        Due.is("read(0, 1, 2)", x.read(0, 1, 2), 6);
        String seven = Due.view(x);
        Due.is("an eighth read of none", x.read(0, 0, -1), -1);
        Due.is("an eighth read of a write", x.read(0, 0, 1), -1);
        Due.same("a read without room", Due.view(x), seven);

        // A number that back took away, or that is now a read's or the other cell's, is no source.
        CausalCheck y = new CausalCheck();
        Due.is("write(0, 0)", y.write(0, 0), 0);
        Due.is("back()", y.back(), 0);
        Due.is("read(1, 0, 0) of a write taken out", y.read(1, 0, 0), -1);
        Due.is("read(1, 0, -1)", y.read(1, 0, -1), 0);
        Due.is("read(1, 0, 0) of a read in its place", y.read(1, 0, 0), -1);
        Due.is("back()", y.back(), 0);
        Due.is("write(0, 1)", y.write(0, 1), 0);
        Due.is("read(1, 0, 0) of the other cell's write", y.read(1, 0, 0), -1);
        Due.is("read(1, 1, 0)", y.read(1, 1, 0), 1);

        // A user may read its own write, and the last operation's slot may be a source.
        CausalCheck z = new CausalCheck();
        for (int i = 0; i < 6; i++) {
            z.write(0, 1);
        }
        Due.is("read(0, 1, 5)", z.read(0, 1, 5), 6);
        Due.is("before(5, 6)", z.before(5, 6), 1);
        Due.end();
    }
}
