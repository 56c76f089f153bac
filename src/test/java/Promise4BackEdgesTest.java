/** The sentences of promise 4 that name a boundary. */
public final class Promise4BackEdgesTest {
    public static void main(String[] args) {
        takesTheGreatestOut();
        answersHowManyAreHeldThen();
        refusedIfThereIsNone();
        refusedIfNoneIsLeft();
        Due.end();
    }

    private static void takesTheGreatestOut() {
        Due.by("Promise 4", "Takes the operation with the greatest number out.");
        for (History history : History.AT_EDGES) {
            for (int left = history.size() - 1; left >= 0; left--) {
                CausalCheck x = history.made();
                for (int i = history.size(); i > left; i--) {
                    x.back();
                }
                String due = Due.view(history.first(left).made());
                Due.same("back() to " + left + " with " + history.name, Due.view(x), due);
            }
        }
    }

    private static void answersHowManyAreHeldThen() {
        Due.by("Promise 4", "Answers how many are held then");
        Due.is("back() from one write", History.ONE_WRITE.made().back(), 0);
        Due.is("back() from one read", History.ONE_READ.made().back(), 0);
        for (History history : History.AT_EDGES) {
            CausalCheck x = history.made();
            for (int left = history.size() - 1; left >= 0; left--) {
                Due.is("back() with " + history.name, x.back(), left);
            }
        }
        // An eighth that was refused is not counted.
        CausalCheck y = History.SEVEN.made();
        y.write(0, 0);
        y.read(0, 0, -1);
        y.choices(0, 0);
        Due.is("back() after an eighth was refused", y.back(), 6);
    }

    private static void refusedIfThereIsNone() {
        Due.by("Promise 4", "-1 if there is none.");
        Refused.check(History.EMPTY, "back()", x -> x.back());
        Refused.check(History.EMPTY, "back() ten times", x -> {
            int answer = -1;
            for (int i = 0; i < 10; i++) {
                answer = Math.max(answer, x.back());
            }
            return answer;
        });
    }

    private static void refusedIfNoneIsLeft() {
        Due.by("Promise 4", "-1 if there is none (any more).");
        CausalCheck x = History.SEVEN.made();
        for (int left = 6; left >= 0; left--) {
            Due.is("back()", x.back(), left);
        }
        for (int i = 0; i < 10; i++) {
            Due.is("back() with none left", x.back(), -1);
        }
        for (int i = 0; i < 7; i++) {
            Due.is("write " + i + " after that", x.write(0, 0), i);
        }
        Due.is("an eighth write after that", x.write(0, 0), -1);
    }
}
