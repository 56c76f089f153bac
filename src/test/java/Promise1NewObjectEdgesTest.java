/** The sentence of promise 1, and what each call answers where nothing is held. */
public final class Promise1NewObjectEdgesTest {
    public static void main(String[] args) {
        Due.by("Promise 1", "No operation.");
        nothingIsHeld(new CausalCheck(), "a new object");
        nothingIsHeld(emptied(History.SEVEN), "an object that was emptied");
        nothingIsHeld(emptied(History.SEVEN_LOST), "an object that was emptied of what does not converge");
        theFirstCallOfEachKind();
        objectsShareNothing();
        Due.end();
    }

    private static CausalCheck emptied(History history) {
        CausalCheck x = history.made();
        for (int i = 0; i < history.size(); i++) {
            x.back();
        }
        return x;
    }

    private static void nothingIsHeld(CausalCheck x, String what) {
        for (int operation : Refused.outside(1, 0)) {
            Due.is("weak(" + operation + ") of " + what, x.weak(operation), -1);
            Due.is("strong(" + operation + ") of " + what, x.strong(operation), -1);
            Due.is("before(" + operation + ", 0) of " + what, x.before(operation, 0), -1);
            Due.is("before(0, " + operation + ") of " + what, x.before(0, operation), -1);
            Due.is("before twice " + operation + " of " + what, x.before(operation, operation), -1);
        }
        Due.is("sound() of " + what, x.sound(), 7);
        for (int user = 0; user < 3; user++) {
            Due.is("choices(" + user + ", 0) of " + what, x.choices(user, 0), 128);
            Due.is("choices(" + user + ", 1) of " + what, x.choices(user, 1), 128);
        }
        for (int source : Refused.outside(-1, -1)) {
            Due.is("read(0, 0, " + source + ") of " + what, x.read(0, 0, source), -1);
        }
        Due.is("back() of " + what, x.back(), -1);
        Due.is("write(0, 0) of " + what, x.write(0, 0), 0);
    }

    /** Each call is the very first one, so that none needs another to have gone before it. */
    private static void theFirstCallOfEachKind() {
        Due.is("write", new CausalCheck().write(2, 1), 0);
        Due.is("read of none", new CausalCheck().read(2, 1, -1), 0);
        Due.is("read of 0", new CausalCheck().read(2, 1, 0), -1);
        Due.is("back", new CausalCheck().back(), -1);
        Due.is("before", new CausalCheck().before(0, 0), -1);
        Due.is("weak", new CausalCheck().weak(0), -1);
        Due.is("strong", new CausalCheck().strong(0), -1);
        Due.is("sound", new CausalCheck().sound(), 7);
        Due.is("choices", new CausalCheck().choices(2, 1), 128);
    }

    private static void objectsShareNothing() {
        CausalCheck full = History.SEVEN_WRITES.made();
        CausalCheck fresh = new CausalCheck();
        Due.is("back() of a new object beside a full one", fresh.back(), -1);
        Due.is("write(0, 0) of a new object beside a full one", fresh.write(0, 0), 0);
        Due.is("write(0, 0) of the full one", full.write(0, 0), -1);
        Due.is("back() of the new one", fresh.back(), 0);
        Due.is("back() of the full one", full.back(), 6);
    }
}
