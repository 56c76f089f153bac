/** The sentences of promise 7 that name a boundary. */
public final class Promise7StrongEdgesTest {
    public static void main(String[] args) {
        aloneInTheHistory();
        atTheGreatestNumber();
        refusedIfNotHeld();
        refusedOnceTakenOut();
        Due.end();
    }

    private static void aloneInTheHistory() {
        Due.by("Promise 7", "1 if the operation is strongly sound, else 0 (a past of one)");
        Due.is("strong(0) of a write", History.ONE_WRITE.made().strong(0), 1);
        Due.is("strong(0) of a read of none", History.ONE_READ.made().strong(0), 1);
        Due.is("strong(1) of the least history with a wrong read", History.LOST.made().strong(1), 0);
    }

    private static void atTheGreatestNumber() {
        Due.by("Promise 7", "1 if the operation is strongly sound, else 0 (a past of seven)");
        // Three writes that nothing orders, seen as 2, 0 and 1: only the last may be seen again.
        int[] due = {0, 1, 0};
        for (int source = 0; source < 3; source++) {
            CausalCheck x = new CausalCheck();
            x.write(0, 0);
            x.write(1, 0);
            x.write(2, 0);
            x.read(2, 0, 2);
            x.read(2, 0, 0);
            x.read(2, 0, 1);
            x.read(2, 0, source);
            Due.is("strong(6) of a read that names " + source, x.strong(6), due[source]);
            Due.is("weak(6) of a read that names " + source, x.weak(6), 1);
        }
        // The seventh is a write: its user's first read is the wrong one.
        CausalCheck y = new CausalCheck();
        y.write(0, 0);
        y.read(0, 0, -1);
        for (int i = 2; i < 7; i++) {
            y.write(0, 1);
            Due.is("strong(" + i + ") of a write after a wrong read", y.strong(i), 0);
        }
    }

    private static void refusedIfNotHeld() {
        Due.by("Promise 7", "-1 if it is not held.");
        for (History history : History.AT_EDGES) {
            for (int operation : Refused.outside(0, history.size() - 1)) {
                Refused.check(history, "strong(" + operation + ")", x -> x.strong(operation));
            }
        }
    }

    private static void refusedOnceTakenOut() {
        Due.by("Promise 7", "-1 if it is not held (any more).");
        CausalCheck x = History.SEVEN_WRITES.made();
        for (int number = 6; number >= 0; number--) {
            Due.is("strong(" + number + ") while held", x.strong(number), 1);
            x.back();
            Due.is("strong(" + number + ") once taken out", x.strong(number), -1);
        }
    }
}
