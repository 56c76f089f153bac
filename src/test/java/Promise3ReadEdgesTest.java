/** The sentences of promise 3 that name a boundary. */
public final class Promise3ReadEdgesTest {
    public static void main(String[] args) {
        namesTheLeastAndTheGreatestSource();
        namesNone();
        answersItsNumber();
        refusedWithSevenHeld();
        refusedIfTheSourceIsNoNumber();
        refusedIfTheSourceIsARead();
        refusedIfTheSourceIsAboutTheOtherCell();
        refusedIfTheSourceWasTakenOut();
        refusedWithAWrongUserOrCell();
        Due.end();
    }

    private static void namesTheLeastAndTheGreatestSource() {
        Due.by("Promise 3", "Adds a read that names the write with the number source");
        for (int source = 0; source < 6; source++) {
            CausalCheck x = new CausalCheck();
            for (int i = 0; i < 6; i++) {
                x.write(i % 2, 0);
            }
            Due.is("read(2, 0, " + source + ")", x.read(2, 0, source), 6);
            for (int a = 0; a < 6; a++) {
                int due = a <= source && a % 2 == source % 2 ? 1 : 0;
                Due.is("before(" + a + ", 6) of a read that names " + source, x.before(a, 6), due);
            }
            Due.is("weak(6) of a read that names " + source, x.weak(6), 1);
        }
    }

    private static void namesNone() {
        Due.by("Promise 3", "or none if source is -1");
        for (int user = 0; user < 3; user++) {
            for (int cell = 0; cell < 2; cell++) {
                CausalCheck x = new CausalCheck();
                Due.is("read(" + user + ", " + cell + ", -1) first", x.read(user, cell, -1), 0);
                Due.is("weak(0)", x.weak(0), 1);
                CausalCheck last = History.SEVEN_WRITES.first(6).made();
                Due.is("read(" + user + ", " + cell + ", -1) seventh", last.read(user, cell, -1), 6);
            }
        }
        // It names none, and not the operation 0 or the last one.
        CausalCheck y = new CausalCheck();
        y.write(0, 0);
        y.write(1, 0);
        y.read(2, 0, -1);
        Due.is("before(0, 2)", y.before(0, 2), 0);
        Due.is("before(1, 2)", y.before(1, 2), 0);
        Due.is("sound()", y.sound(), 7);
    }

    private static void answersItsNumber() {
        Due.by("Promise 3", "Answers its number");
        CausalCheck x = new CausalCheck();
        for (int i = 0; i < 7; i++) {
            Due.is("read " + i, x.read(i % 3, i % 2, -1), i);
        }
        Due.is("back()", x.back(), 6);
        Due.is("the seventh again", x.read(0, 0, -1), 6);
    }

    private static void refusedWithSevenHeld() {
        Due.by("Promise 3", "-1 also if 7 operations are held");
        Due.is("read with six held", History.SIX.made().read(0, 0, 4), 6);
        for (History seven : History.AT_EDGES) {
            if (seven.size() == 7) {
                for (int source = -1; source <= 8; source++) {
                    int named = source;
                    Refused.check(seven, "read(0, 0, " + source + ")", x -> x.read(0, 0, named));
                    Refused.check(seven, "read(2, 1, " + source + ")", x -> x.read(2, 1, named));
                }
            }
        }
    }

    private static void refusedIfTheSourceIsNoNumber() {
        Due.by("Promise 3", "or source is not -1 and not the number of a write (of no operation)");
        for (History history : History.AT_EDGES) {
            for (int source : Refused.outside(-1, history.size() - 1)) {
                Refused.check(history, "read(0, 0, " + source + ")", x -> x.read(0, 0, source));
                Refused.check(history, "read(2, 1, " + source + ")", x -> x.read(2, 1, source));
            }
        }
    }

    private static void refusedIfTheSourceIsARead() {
        Due.by("Promise 3", "or source is not -1 and not the number of a write (but of a read)");
        Refused.check(History.ONE_READ, "read(0, 0, 0)", x -> x.read(0, 0, 0));
        Refused.check(History.SIX, "read(0, 0, 2)", x -> x.read(0, 0, 2));
        Refused.check(History.SIX, "read(0, 1, 3)", x -> x.read(0, 1, 3));
        Refused.check(History.SIX, "read(1, 0, 5)", x -> x.read(1, 0, 5));
        Refused.check(History.SEVEN_READS.first(6), "read(2, 1, 5)", x -> x.read(2, 1, 5));
    }

    private static void refusedIfTheSourceIsAboutTheOtherCell() {
        Due.by("Promise 3", "or source is not -1 and not the number of a write about the same cell");
        Refused.check(History.ONE_WRITE, "read(2, 0, 0)", x -> x.read(2, 0, 0));
        Refused.check(History.SIX, "read(0, 1, 0)", x -> x.read(0, 1, 0));
        Refused.check(History.SIX, "read(0, 0, 1)", x -> x.read(0, 0, 1));
        Refused.check(History.SIX, "read(0, 1, 4)", x -> x.read(0, 1, 4));
        Refused.check(History.SEVEN_WRITES.first(6), "read(0, 1, 5)", x -> x.read(0, 1, 5));
    }

    private static void refusedIfTheSourceWasTakenOut() {
        Due.by("Promise 3", "or source is not -1 and not the number of a write (that is held no more)");
        CausalCheck x = History.SEVEN_WRITES.made();
        int[] cells = {0, 0, 0, 1, 1, 0, 1};
        for (int number = 6; number >= 0; number--) {
            Due.is("back()", x.back(), number);
            Due.is("read that names " + number, x.read(0, cells[number], number), -1);
            Due.is("read of the other cell that names " + number, x.read(0, 1 - cells[number], number), -1);
        }
    }

    private static void refusedWithAWrongUserOrCell() {
        Due.by("Promise 3", "int read(int user, int cell, int source)");
        for (History history : History.AT_EDGES) {
            for (int user : Refused.outside(0, 2)) {
                Refused.check(history, "read(" + user + ", 0, -1)", x -> x.read(user, 0, -1));
                Refused.check(history, "read(" + user + ", 0, 0)", x -> x.read(user, 0, 0));
            }
            for (int cell : Refused.outside(0, 1)) {
                Refused.check(history, "read(0, " + cell + ", -1)", x -> x.read(0, cell, -1));
                Refused.check(history, "read(0, " + cell + ", 0)", x -> x.read(0, cell, 0));
            }
        }
    }
}
