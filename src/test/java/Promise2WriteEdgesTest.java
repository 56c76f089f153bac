/** The sentences of promise 2 that name a boundary. */
public final class Promise2WriteEdgesTest {
    public static void main(String[] args) {
        adds();
        answersItsNumber();
        refusedWithSevenHeld();
        refusedWithAWrongArgument();
        Due.end();
    }

    private static void adds() {
        Due.by("Promise 2", "Adds a write.");
        // The least and the greatest user and cell, as the first and as the seventh operation.
        for (int user = 0; user < 3; user++) {
            for (int cell = 0; cell < 2; cell++) {
                CausalCheck first = new CausalCheck();
                Due.is("write(" + user + ", " + cell + ") first", first.write(user, cell), 0);
                Due.is("a read that names it", first.read(1, cell, 0), 1);
                Due.is("a read of the other cell that names it", first.read(1, 1 - cell, 0), -1);
                CausalCheck last = History.SEVEN_READS.first(6).made();
                Due.is("write(" + user + ", " + cell + ") seventh", last.write(user, cell), 6);
                Due.is("choices of its user", last.choices(user, cell), 64);
                Due.is("choices of another user", last.choices((user + 1) % 3, cell), 64 + 128);
                Due.is("choices for the other cell", last.choices(user, 1 - cell), 128);
            }
        }
    }

    private static void answersItsNumber() {
        Due.by("Promise 2", "Answers its number");
        CausalCheck x = new CausalCheck();
        for (int i = 0; i < 7; i++) {
            Due.is("write " + i, x.write(0, 0), i);
        }
        Due.is("back()", x.back(), 6);
        Due.is("the seventh again", x.write(1, 1), 6);
        for (int i = 6; i >= 0; i--) {
            Due.is("back()", x.back(), i);
        }
        Due.is("the first again", x.write(2, 1), 0);
    }

    private static void refusedWithSevenHeld() {
        Due.by("Promise 2", "-1 also if 7 operations are held.");
        Due.is("write with six held", History.SIX.made().write(0, 0), 6);
        for (History seven : History.AT_EDGES) {
            if (seven.size() == 7) {
                for (int user = 0; user < 3; user++) {
                    int by = user;
                    Refused.check(seven, "write(" + user + ", 0)", x -> x.write(by, 0));
                    Refused.check(seven, "write(" + user + ", 1)", x -> x.write(by, 1));
                }
            }
        }
    }

    private static void refusedWithAWrongArgument() {
        Due.by("Promise 2", "int write(int user, int cell)");
        for (History history : History.AT_EDGES) {
            for (int user : Refused.outside(0, 2)) {
                Refused.check(history, "write(" + user + ", 0)", x -> x.write(user, 0));
            }
            for (int cell : Refused.outside(0, 1)) {
                Refused.check(history, "write(0, " + cell + ")", x -> x.write(0, cell));
                Refused.check(history, "write(3, " + cell + ")", x -> x.write(3, cell));
            }
        }
    }
}
