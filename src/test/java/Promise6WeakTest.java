/** Promise 6: weak. */
public final class Promise6WeakTest {
    public static void main(String[] args) {
        // A read that names a write which its past overwrites, or none though its past has one.
        CausalCheck x = new CausalCheck();
        x.write(0, 0);
        x.write(0, 0);
        x.read(0, 0, 0);
        x.read(0, 0, 1);
        x.read(0, 0, -1);
        x.read(0, 1, -1);
        x.read(1, 0, 0);
        int[] due = {1, 1, 0, 1, 0, 1, 1};
        for (int o = 0; o < 7; o++) {
            Due.is("weak(" + o + ")", x.weak(o), due[o]);
        }
        int[] notHeld = {-1, 7, 8, 32, Integer.MIN_VALUE, Integer.MAX_VALUE};
        for (int n : notHeld) {
            Due.is("weak(" + n + ")", x.weak(n), -1);
        }
        x.back();
        Due.is("weak(6) after back", x.weak(6), -1);

        // Other reads of the past need not be right, and a write is sound after a wrong read.
        CausalCheck y = new CausalCheck();
        y.write(0, 0);
        y.write(1, 0);
        y.read(2, 0, 0);
        y.read(2, 0, 1);
        y.read(2, 0, 0);
        Due.is("weak(4) to and fro", y.weak(4), 1);
        y.read(2, 0, -1);
        Due.is("weak(5) names none", y.weak(5), 0);
        y.write(2, 0);
        Due.is("weak(6) a write", y.weak(6), 1);

        // The overwriting write reaches the reader through the other cell.
        CausalCheck z = new CausalCheck();
        z.write(0, 0);
        z.read(1, 0, 0);
        z.write(1, 0);
        z.write(1, 1);
        z.read(2, 1, 3);
        z.read(2, 0, 0);
        Due.is("weak(5) through cell 1", z.weak(5), 0);
        z.back();
        z.read(2, 0, 2);
        Due.is("weak(5) the newest", z.weak(5), 1);
        Due.end();
    }
}
