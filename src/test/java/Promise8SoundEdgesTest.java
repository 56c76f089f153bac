/** Promise 8 where nothing is held, where one operation is, and where seven are. */
public final class Promise8SoundEdgesTest {
    public static void main(String[] args) {
        nothingHeld();
        oneHeld();
        sevenHeld();
        theSeventhDecides();
        changesNothing();
        Due.end();
    }

    private static void nothingHeld() {
        Due.by("Promise 8", "the history is weakly sound, strongly sound, converges (without any operation)");
        CausalCheck x = new CausalCheck();
        Due.is("sound() of a new object", x.sound(), 1 + 2 + 4);
        x.write(3, 0);
        x.read(0, 0, 0);
        x.back();
        Due.is("sound() after refused calls", x.sound(), 1 + 2 + 4);
        CausalCheck emptied = History.LOST.made();
        Due.is("sound() of two that do not converge", emptied.sound(), 0);
        emptied.back();
        Due.is("sound() with the wrong read taken out", emptied.sound(), 1 + 2 + 4);
        emptied.back();
        Due.is("sound() with all taken out", emptied.sound(), 1 + 2 + 4);
    }

    private static void oneHeld() {
        Due.by("Promise 8", "the history is weakly sound, strongly sound, converges (one operation)");
        for (int user = 0; user < 3; user++) {
            for (int cell = 0; cell < 2; cell++) {
                CausalCheck x = new CausalCheck();
                x.write(user, cell);
                Due.is("sound() of one write", x.sound(), 7);
                CausalCheck y = new CausalCheck();
                y.read(user, cell, -1);
                Due.is("sound() of one read", y.sound(), 7);
            }
        }
    }

    private static void sevenHeld() {
        Due.by("Promise 8", "the history is weakly sound, strongly sound, converges (seven operations)");
        Due.is("sound() of seven writes", History.SEVEN_WRITES.made().sound(), 7);
        Due.is("sound() of seven reads", History.SEVEN_READS.made().sound(), 7);
        Due.is("sound() of seven of both", History.SEVEN.made().sound(), 7);
        Due.is("sound() of seven with a wrong read", History.SEVEN_LOST.made().sound(), 0);
    }

    /** All sums that there are; the first six operations alone are sound in every way. */
    private static void theSeventhDecides() {
        Due.by("Promise 8", "The sum of 1, 2 and 4 (the seventh operation decides)");
        int[][] toAndFro = {
            History.w(0, 0), History.w(1, 0), History.w(2, 1), History.r(2, 1, 2),
            History.r(2, 0, 0), History.r(2, 0, 1), null,
        };
        decides(toAndFro, History.r(2, 0, 1), 7);
        decides(toAndFro, History.r(2, 0, 0), 1);
        decides(toAndFro, History.r(2, 0, -1), 0);
        decides(toAndFro, History.w(2, 0), 7);
        int[][] crosswise = {
            History.w(0, 0), History.w(1, 0), History.w(2, 1), History.r(0, 1, 2),
            History.r(1, 1, 2), History.r(0, 0, 1), null,
        };
        decides(crosswise, History.r(1, 0, 0), 3);
        decides(crosswise, History.r(1, 0, 1), 7);
        int[][] across = {
            History.w(0, 0), History.w(0, 1), History.w(0, 0), History.w(1, 1),
            History.r(1, 0, -1), History.r(1, 0, 2), null,
        };
        decides(across, History.r(1, 1, 3), 5);
        decides(across, History.r(1, 1, 1), 7);
    }

    private static void decides(int[][] operations, int[] seventh, int due) {
        operations[6] = seventh;
        History history = new History("seven that end with a read of " + seventh[2], operations);
        CausalCheck x = history.made();
        Due.is("sound() of " + history.name, x.sound(), due);
        x.back();
        Due.is("sound() with the seventh taken out", x.sound(), 7);
        History.add(x, seventh);
        Due.is("sound() with the seventh added again", x.sound(), due);
    }

    private static void changesNothing() {
        Due.by("Promise 8", "int sound()");
        for (History history : History.AT_EDGES) {
            Refused.check(history, "sound(), its answer left aside,", x -> Math.min(x.sound(), -1));
        }
    }
}
