/**
 * Holds every answer against the document's terms taken word for word: on all histories of up to
 * three operations, and on long runs of calls that a fixed sequence of numbers picks.
 */
public final class DefinitionTest {
    private static final int SHORT = 3;
    private static final int RUNS = 3000;
    private static long seed = 20261115L;

    public static void main(String[] args) {
        shortHistories(new int[SHORT][3], 0);
        for (int run = 0; run < RUNS; run++) {
            longRun(run);
        }
        Due.end();
    }

    private static void shortHistories(int[][] calls, int n) {
        compare(calls, n);
        if (n == SHORT) {
            return;
        }
        for (int user = 0; user < 3; user++) {
            for (int cell = 0; cell < 2; cell++) {
                for (int source = -2; source < n; source++) {
                    if (source < 0 || calls[source][2] == -2 && calls[source][1] == cell) {
                        calls[n] = new int[] {user, cell, source};
                        shortHistories(calls, n + 1);
                    }
                }
            }
        }
    }

    /** A source of -2 stands for a write. */
    private static void compare(int[][] calls, int n) {
        CausalCheck x = new CausalCheck();
        Literal due = new Literal();
        StringBuilder told = new StringBuilder();
        for (int i = 0; i < n; i++) {
            add(x, due, calls[i][0], calls[i][1], calls[i][2], told);
        }
        compareAll(x, due, told);
    }

    private static void add(CausalCheck x, Literal due, int user, int cell, int source, StringBuilder told) {
        if (source == -2) {
            told.append("write(").append(user).append(", ").append(cell).append(") ");
            Due.is(told.toString(), x.write(user, cell), due.write(user, cell));
        } else {
            told.append("read(").append(user).append(", ").append(cell).append(", ").append(source).append(") ");
            Due.is(told.toString(), x.read(user, cell, source), due.read(user, cell, source));
        }
    }

    private static void compareAll(CausalCheck x, Literal due, StringBuilder told) {
        int n = due.operations.size();
        for (int a = -1; a <= n; a++) {
            Due.is(told + "weak(" + a + ")", x.weak(a), due.weak(a));
            Due.is(told + "strong(" + a + ")", x.strong(a), due.strong(a));
            for (int b = -1; b <= n; b++) {
                Due.is(told + "before(" + a + ", " + b + ")", x.before(a, b), due.before(a, b));
            }
        }
        Due.is(told + "sound()", x.sound(), due.sound());
        for (int user = -1; user <= 3; user++) {
            for (int cell = -1; cell <= 2; cell++) {
                Due.is(told + "choices(" + user + ", " + cell + ")", x.choices(user, cell), due.choices(user, cell));
            }
        }
    }

    /** Fills an object, goes back some and fills it again; fewer than 512 calls. */
    private static void longRun(int run) {
        CausalCheck x = new CausalCheck();
        Literal due = new Literal();
        StringBuilder told = new StringBuilder("run " + run + ": ");
        for (int i = 0; i < 40; i++) {
            int kind = next(10);
            if (kind == 0) {
                told.append("back() ");
                Due.is(told.toString(), x.back(), due.back());
            } else {
                int user = next(20) == 0 ? 3 : next(3);
                int cell = next(20) == 0 ? 2 : next(2);
                add(x, due, user, cell, kind < 4 ? -2 : pickSource(due, cell), told);
            }
            if (i % 13 == 12) {
                compareAll(x, due, told);
            }
        }
    }

    /** Mostly a source that is allowed, since a refused read tells little about the rest. */
    private static int pickSource(Literal due, int cell) {
        int source = next(9) - 1;
        for (int tries = 0; tries < 8 && !due.mayName(cell, source); tries++) {
            source = next(9) - 1;
        }
        return source;
    }

    private static int next(int bound) {
        seed = seed * 6364136223846793005L + 1442695040888963407L;
        return (int) ((seed >>> 33) % bound);
    }
}
