/** Promise 5: before. */
public final class Promise5BeforeTest {
    public static void main(String[] args) {
        CausalCheck x = new CausalCheck();
        x.write(0, 0);
        x.write(1, 1);
        x.read(1, 0, 0);
        x.write(1, 1);
        x.read(2, 1, 3);
        x.write(0, 0);
        x.read(2, 1, -1);
        // Row a, column b: same user, a named write, and chains of both.
        int[][] due = {
            {0, 0, 1, 1, 1, 1, 1},
            {0, 0, 1, 1, 1, 0, 1},
            {0, 0, 0, 1, 1, 0, 1},
            {0, 0, 0, 0, 1, 0, 1},
            {0, 0, 0, 0, 0, 0, 1},
            {0, 0, 0, 0, 0, 0, 0},
            {0, 0, 0, 0, 0, 0, 0},
        };
        for (int a = 0; a < 7; a++) {
            for (int b = 0; b < 7; b++) {
                Due.is("before(" + a + ", " + b + ")", x.before(a, b), due[a][b]);
            }
        }
        int[] notHeld = {-1, 7, 8, 31, 32, 33, Integer.MIN_VALUE, Integer.MAX_VALUE};
        for (int n : notHeld) {
            Due.is("before(" + n + ", 0)", x.before(n, 0), -1);
            Due.is("before(0, " + n + ")", x.before(0, n), -1);
            Due.is("before(" + n + ", " + n + ")", x.before(n, n), -1);
        }
        x.back();
        Due.is("before(0, 6) after back", x.before(0, 6), -1);
        Due.is("before(6, 0) after back", x.before(6, 0), -1);
        Due.is("before(0, 5) after back", x.before(0, 5), 1);
        Due.end();
    }
}
