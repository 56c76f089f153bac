/** The sentences of promise 5 that name a boundary. */
public final class Promise5BeforeEdgesTest {
    public static void main(String[] args) {
        notBeforeItself();
        firstAndLast();
        refusedIfTheFirstIsNotHeld();
        refusedIfTheSecondIsNotHeld();
        refusedIfNeitherIsHeld();
        refusedOnceTakenOut();
        Due.end();
    }

    private static void notBeforeItself() {
        Due.by("Promise 5", "1 if operation a is before operation b, else 0 (a is b)");
        for (History history : History.AT_EDGES) {
            CausalCheck x = history.made();
            for (int a = 0; a < history.size(); a++) {
                Due.is("before(" + a + ", " + a + ") with " + history.name, x.before(a, a), 0);
            }
        }
    }

    private static void firstAndLast() {
        Due.by("Promise 5", "1 if operation a is before operation b, else 0");
        CausalCheck x = History.SEVEN_READS.made();
        Due.is("before(0, 6) of one user", x.before(0, 6), 1);
        Due.is("before(6, 0) of one user", x.before(6, 0), 0);
        Due.is("before(5, 6) of two users", x.before(5, 6), 0);
        Due.is("before(0, 1) of one user", x.before(0, 1), 1);
    }

    private static void refusedIfTheFirstIsNotHeld() {
        Due.by("Promise 5", "-1 if one of the two is not held. (a)");
        for (History history : History.AT_EDGES) {
            for (int a : Refused.outside(0, history.size() - 1)) {
                for (int b = 0; b < history.size(); b++) {
                    int held = b;
                    Refused.check(history, "before(" + a + ", " + b + ")", x -> x.before(a, held));
                }
            }
        }
    }

    private static void refusedIfTheSecondIsNotHeld() {
        Due.by("Promise 5", "-1 if one of the two is not held. (b)");
        for (History history : History.AT_EDGES) {
            for (int b : Refused.outside(0, history.size() - 1)) {
                for (int a = 0; a < history.size(); a++) {
                    int held = a;
                    Refused.check(history, "before(" + a + ", " + b + ")", x -> x.before(held, b));
                }
            }
        }
    }

    private static void refusedIfNeitherIsHeld() {
        Due.by("Promise 5", "-1 if one of the two is not held. (both)");
        for (History history : History.AT_EDGES) {
            int[] notHeld = Refused.outside(0, history.size() - 1);
            for (int i = 0; i < notHeld.length; i++) {
                int a = notHeld[i];
                int b = notHeld[notHeld.length - 1 - i];
                Refused.check(history, "before(" + a + ", " + a + ")", x -> x.before(a, a));
                Refused.check(history, "before(" + a + ", " + b + ")", x -> x.before(a, b));
            }
        }
    }

    private static void refusedOnceTakenOut() {
        Due.by("Promise 5", "-1 if one of the two is not held. (any more)");
        CausalCheck x = History.SEVEN_WRITES.made();
        for (int number = 6; number >= 1; number--) {
            x.back();
            Due.is("before(0, " + number + ")", x.before(0, number), -1);
            Due.is("before(" + number + ", 0)", x.before(number, 0), -1);
            Due.is("before(0, " + (number - 1) + ")", x.before(0, number - 1), number - 1 == 1 ? 1 : 0);
        }
    }
}
