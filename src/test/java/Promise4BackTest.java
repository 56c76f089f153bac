/** Promise 4: back. */
public final class Promise4BackTest {
    public static void main(String[] args) {
        CausalCheck x = new CausalCheck();
        Due.is("back() with none", x.back(), -1);
        String[] views = new String[8];
        int[][] calls = {{0, 0, -2}, {1, 0, -2}, {2, 0, 0}, {2, 0, 1}, {2, 0, 0}, {1, 1, -1}, {1, 0, 0}};
        views[0] = Due.view(new CausalCheck());
        for (int n = 1; n <= 7; n++) {
            views[n] = Due.view(holding(calls, n));
        }
        x = holding(calls, 7);
        for (int n = 6; n >= 0; n--) {
            Due.is("back()", x.back(), n);
            Due.is("weak of what was taken out", x.weak(n), -1);
            CausalCheck y = holding(calls, 7);
            for (int i = 7; i > n; i--) {
                y.back();
            }
            Due.same("back() to " + n, Due.view(y), views[n]);
        }
        Due.is("back() with none left", x.back(), -1);
        Due.is("back() with none left, again", x.back(), -1);
        Due.is("sound()", x.sound(), 7);

        // What is added in the place of an operation owes nothing to it.
        CausalCheck z = new CausalCheck();
        z.write(0, 0);
        z.read(1, 0, 0);
        Due.is("back()", z.back(), 1);
        Due.is("write(2, 0)", z.write(2, 0), 1);
        Due.is("before(0, 1)", z.before(0, 1), 0);
        Due.is("write(1, 1)", z.write(1, 1), 2);
        Due.is("before(0, 2)", z.before(0, 2), 0);
        Due.is("before(1, 2)", z.before(1, 2), 0);
        Due.end();
    }

    private static CausalCheck holding(int[][] calls, int n) {
        CausalCheck x = new CausalCheck();
        for (int i = 0; i < n; i++) {
            int[] c = calls[i];
            Due.is("operation " + i, c[2] == -2 ? x.write(c[0], c[1]) : x.read(c[0], c[1], c[2]), i);
        }
        return x;
    }
}
