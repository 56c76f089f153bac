/** The sentences of promise 6 that name a boundary. */
public final class Promise6WeakEdgesTest {
    public static void main(String[] args) {
        aloneInTheHistory();
        atTheGreatestNumber();
        refusedIfNotHeld();
        refusedOnceTakenOut();
        Due.end();
    }

    private static void aloneInTheHistory() {
        Due.by("Promise 6", "1 if the operation is weakly sound, else 0 (a past of one)");
        Due.is("weak(0) of a write", History.ONE_WRITE.made().weak(0), 1);
        Due.is("weak(0) of a read of none", History.ONE_READ.made().weak(0), 1);
        Due.is("weak(1) of the least history with a wrong read", History.LOST.made().weak(1), 0);
    }

    private static void atTheGreatestNumber() {
        Due.by("Promise 6", "1 if the operation is weakly sound, else 0 (a past of seven)");
        int[] sources = {-1, 0, 1, 2, 3, 4, 5};
        for (int source : sources) {
            CausalCheck x = new CausalCheck();
            for (int i = 0; i < 6; i++) {
                x.write(0, 1);
            }
            x.read(0, 1, source);
            Due.is("weak(6) of a read that names " + source, x.weak(6), source == 5 ? 1 : 0);
        }
        // Three users' writes in the past, one of them overwritten by its own user.
        int[] due = {0, 1, 1, 1};
        for (int source = 0; source < 4; source++) {
            CausalCheck y = new CausalCheck();
            y.write(0, 0);
            y.write(0, 0);
            y.write(1, 0);
            y.write(2, 0);
            y.read(2, 0, 1);
            y.read(2, 0, 2);
            y.read(2, 0, source);
            Due.is("weak(6) of a read that names " + source, y.weak(6), due[source]);
        }
    }

    private static void refusedIfNotHeld() {
        Due.by("Promise 6", "-1 if it is not held.");
        for (History history : History.AT_EDGES) {
            for (int operation : Refused.outside(0, history.size() - 1)) {
                Refused.check(history, "weak(" + operation + ")", x -> x.weak(operation));
            }
        }
    }

    private static void refusedOnceTakenOut() {
        Due.by("Promise 6", "-1 if it is not held (any more).");
        CausalCheck x = History.SEVEN_READS.made();
        for (int number = 6; number >= 0; number--) {
            Due.is("weak(" + number + ") while held", x.weak(number), 1);
            x.back();
            Due.is("weak(" + number + ") once taken out", x.weak(number), -1);
        }
    }
}
