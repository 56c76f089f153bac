/** Promise 7: strong. */
public final class Promise7StrongTest {
    public static void main(String[] args) {
        CausalCheck x = new CausalCheck();
        x.write(0, 0);
        x.write(1, 0);
        x.read(2, 0, 0);
        x.read(2, 0, 1);
        x.read(2, 0, 0);
        x.write(2, 1);
        x.read(0, 1, 5);
        // A write is judged by its user's earlier reads; user 0 is not judged by user 2's reads.
        int[] due = {1, 1, 1, 1, 0, 0, 1};
        for (int o = 0; o < 7; o++) {
            Due.is("strong(" + o + ")", x.strong(o), due[o]);
        }
        int[] notHeld = {-1, 7, 8, 32, Integer.MIN_VALUE, Integer.MAX_VALUE};
        for (int n : notHeld) {
            Due.is("strong(" + n + ")", x.strong(n), -1);
        }
        x.back();
        Due.is("strong(6) after back", x.strong(6), -1);

        // Two users may each see the other's write last.
        CausalCheck y = new CausalCheck();
        y.write(0, 0);
        y.write(1, 0);
        y.read(0, 0, 1);
        y.read(1, 0, 0);
        Due.is("strong(2)", y.strong(2), 1);
        Due.is("strong(3)", y.strong(3), 1);
        y.read(0, 0, 0);
        Due.is("strong(4) back to its own write", y.strong(4), 0);
        Due.is("weak(4) back to its own write", y.weak(4), 1);

        // The reads of cell 0 put write 1 after write 3, the read of cell 1 wants it earlier.
        CausalCheck z = new CausalCheck();
        z.write(0, 0);
        z.write(0, 1);
        z.write(0, 0);
        z.write(1, 1);
        z.read(1, 0, -1);
        z.read(1, 0, 2);
        Due.is("strong(5) across the cells", z.strong(5), 1);
        z.read(1, 1, 3);
        Due.is("weak(6) across the cells", z.weak(6), 1);
        Due.is("strong(6) across the cells", z.strong(6), 0);
        z.back();
        z.read(1, 1, 1);
        Due.is("strong(6) of the write that must be last", z.strong(6), 1);

        // A later wrong read of the same user is not in an earlier operation's past.
        CausalCheck later = new CausalCheck();
        later.write(0, 0);
        later.read(0, 0, 0);
        later.read(0, 0, -1);
        Due.is("strong(1) before a wrong read", later.strong(1), 1);
        Due.is("strong(2) the wrong read", later.strong(2), 0);
        Due.end();
    }
}
