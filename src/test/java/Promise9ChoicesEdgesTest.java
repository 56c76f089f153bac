/** The sentences of promise 9 that name a boundary. */
public final class Promise9ChoicesEdgesTest {
    public static void main(String[] args) {
        theLeastAndTheGreatestSource();
        noneCountsAsTwoToTheSeventh();
        onlyWhatCouldBeAdded();
        leavingRoomAside();
        noChoiceIsZero();
        refusedWithAWrongUser();
        refusedWithAWrongCell();
        changesNothing();
        Due.end();
    }

    private static void theLeastAndTheGreatestSource() {
        Due.by("Promise 9", "The sum of 2^s over the sources s");
        for (int source = 0; source < 7; source++) {
            CausalCheck x = History.SEVEN_READS.first(source).made();
            Due.is("write " + source, x.write(2, 1), source);
            Due.is("choices(2, 1) with one write, " + source, x.choices(2, 1), 1 << source);
            Due.is("choices(1, 1) with one write, " + source, x.choices(1, 1), (1 << source) + 128);
        }
        CausalCheck y = new CausalCheck();
        for (int i = 0; i < 7; i++) {
            y.write(0, 0);
        }
        Due.is("choices(0, 0) of the writer of seven", y.choices(0, 0), 64);
        Due.is("choices(1, 0) of another", y.choices(1, 0), 255);
        Due.is("choices(1, 1) of another", y.choices(1, 1), 128);
    }

    private static void noneCountsAsTwoToTheSeventh() {
        Due.by("Promise 9", "(with 2^7 for -1)");
        for (int user = 0; user < 3; user++) {
            for (int cell = 0; cell < 2; cell++) {
                Due.is("choices with nothing held", History.EMPTY.made().choices(user, cell), 128);
                Due.is("choices with seven reads held", History.SEVEN_READS.made().choices(user, cell), 128);
            }
        }
        CausalCheck x = new CausalCheck();
        x.write(0, 0);
        Due.is("choices(0, 0) of the writer", x.choices(0, 0), 1);
        Due.is("choices(1, 0) of another", x.choices(1, 0), 1 + 128);
        x.read(1, 0, 0);
        Due.is("choices(1, 0) once it has read the write", x.choices(1, 0), 1);
        Due.is("choices(1, 1) once it has read the write", x.choices(1, 1), 128);
    }

    private static void onlyWhatCouldBeAdded() {
        Due.by("Promise 9", "such that a read of the user about the cell that names s could be added");
        CausalCheck x = new CausalCheck();
        x.read(0, 0, -1);
        x.write(0, 0);
        x.write(0, 1);
        x.read(1, 0, 1);
        Due.is("choices(2, 0), no read and not the other cell", x.choices(2, 0), 2 + 128);
        Due.is("choices(2, 1), no read and not the other cell", x.choices(2, 1), 4 + 128);
        x.back();
        x.back();
        Due.is("choices(2, 1), not what was taken out", x.choices(2, 1), 128);
        x.back();
        Due.is("choices(2, 0), not what was taken out", x.choices(2, 0), 128);
    }

    private static void leavingRoomAside() {
        Due.by("Promise 9", "(leaving aside whether there is room)");
        // The answers of an object with room, and of one that a read of no weight for them fills.
        CausalCheck six = new CausalCheck();
        CausalCheck seven = new CausalCheck();
        for (int i = 0; i < 6; i++) {
            six.write(i / 2, 0);
            seven.write(i / 2, 0);
        }
        seven.read(0, 1, -1);
        int[] due = {2 + 4 + 8 + 16 + 32, 8 + 1 + 2 + 16 + 32, 32 + 1 + 2 + 4 + 8};
        for (int user = 0; user < 3; user++) {
            Due.is("choices(" + user + ", 0) with six held", six.choices(user, 0), due[user]);
            Due.is("choices(" + user + ", 0) with seven held", seven.choices(user, 0), due[user]);
            Due.is("choices(" + user + ", 1) with six held", six.choices(user, 1), 128);
            Due.is("choices(" + user + ", 1) with seven held", seven.choices(user, 1), 128);
        }
        Due.is("read(0, 1, -1) that choices told, without room", seven.read(0, 1, -1), -1);
        Due.is("weak(7) after choices without room", seven.weak(7), -1);
        Due.is("back() after choices without room", seven.back(), 6);
    }

    private static void noChoiceIsZero() {
        Due.by("Promise 9", "and would leave the history converging (none would)");
        History[] lost = {History.LOST, History.SEVEN_LOST};
        for (History history : lost) {
            for (int user = 0; user < 3; user++) {
                for (int cell = 0; cell < 2; cell++) {
                    String call = "choices(" + user + ", " + cell + ") with " + history.name;
                    Due.is(call, history.made().choices(user, cell), 0);
                }
            }
        }
    }

    private static void refusedWithAWrongUser() {
        Due.by("Promise 9", "-1 (for a user that is not as said)");
        for (History history : History.AT_EDGES) {
            for (int user : Refused.outside(0, 2)) {
                Refused.check(history, "choices(" + user + ", 0)", x -> x.choices(user, 0));
                Refused.check(history, "choices(" + user + ", 1)", x -> x.choices(user, 1));
                Refused.check(history, "choices(" + user + ", 2)", x -> x.choices(user, 2));
            }
        }
    }

    private static void refusedWithAWrongCell() {
        Due.by("Promise 9", "-1 (for a cell that is not as said)");
        for (History history : History.AT_EDGES) {
            for (int cell : Refused.outside(0, 1)) {
                Refused.check(history, "choices(0, " + cell + ")", x -> x.choices(0, cell));
                Refused.check(history, "choices(2, " + cell + ")", x -> x.choices(2, cell));
                Refused.check(history, "choices(-1, " + cell + ")", x -> x.choices(-1, cell));
            }
        }
    }

    private static void changesNothing() {
        Due.by("Promise 9", "int choices(int user, int cell)");
        for (History history : History.AT_EDGES) {
            for (int user = 0; user < 3; user++) {
                for (int cell = 0; cell < 2; cell++) {
                    int by = user;
                    int about = cell;
                    Refused.check(history, "choices(" + user + ", " + cell + "), its answer left aside,",
                            x -> Math.min(x.choices(by, about), -1));
                }
            }
        }
    }
}
