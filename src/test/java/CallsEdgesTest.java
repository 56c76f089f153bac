import java.util.function.ToIntFunction;

/** "An object is used for at most 512 calls after it has been made": the 512th is still right. */
public final class CallsEdgesTest {
    private static final int CALLS = 512;
    private static long seed = 512L;

    public static void main(String[] args) {
        Due.by("What it is", "An object is used for at most 512 calls after it has been made");
        sameCallOverAndOver();
        eachKindAsTheLastCall();
        fillAndEmpty();
        for (int run = 0; run < 200; run++) {
            anyCalls(run);
        }
        Due.end();
    }

    private static void sameCallOverAndOver() {
        CausalCheck empty = new CausalCheck();
        CausalCheck refused = new CausalCheck();
        CausalCheck sound = new CausalCheck();
        CausalCheck choices = new CausalCheck();
        for (int call = 1; call <= CALLS; call++) {
            Due.is("back(), call " + call, empty.back(), -1);
            Due.is("write(3, 0), call " + call, refused.write(3, 0), -1);
            Due.is("sound(), call " + call, sound.sound(), 7);
            Due.is("choices(2, 1), call " + call, choices.choices(2, 1), 128);
        }
        CausalCheck full = History.SEVEN_WRITES.made();
        for (int call = 8; call <= CALLS; call++) {
            Due.is("write(0, 0) with seven held, call " + call, full.write(0, 0), -1);
        }
        CausalCheck asked = History.SEVEN_LOST.made();
        for (int call = 8; call <= CALLS; call++) {
            Due.is("sound() with seven held, call " + call, asked.sound(), 0);
        }
    }

    private static void eachKindAsTheLastCall() {
        last("write", x -> x.write(0, 0), 6);
        last("read", x -> x.read(1, 0, 4), 6);
        last("back", x -> x.back(), 5);
        last("before", x -> x.before(0, 5), 1);
        last("weak", x -> x.weak(5), 1);
        last("strong", x -> x.strong(5), 1);
        last("sound", x -> x.sound(), 7);
        last("choices", x -> x.choices(1, 0), 16);
    }

    private static void last(String name, ToIntFunction<CausalCheck> call, int due) {
        CausalCheck x = History.SIX.made();
        for (int made = History.SIX.size(); made < CALLS - 1; made++) {
            int kind = made % 4;
            int answer = kind == 0 ? x.choices(2, 1) : kind == 1 ? x.sound() : kind == 2 ? x.weak(6) : x.before(0, 1);
            int[] dues = {2 + 128, 7, -1, 0};
            Due.is("call " + (made + 1), answer, dues[kind]);
        }
        Due.is(name + " as the last call", call.applyAsInt(x), due);
    }

    private static void fillAndEmpty() {
        CausalCheck x = new CausalCheck();
        int held = 0;
        boolean filling = true;
        for (int call = 1; call <= CALLS; call++) {
            if (filling) {
                Due.is("write, call " + call, x.write(call % 3, call % 2), held < 7 ? held : -1);
                filling = held < 7;
                held = Math.min(held + 1, 7);
            } else {
                Due.is("back, call " + call, x.back(), held - 1);
                filling = held == 0;
                held = Math.max(held - 1, 0);
            }
        }
    }

    /** Calls of every kind, each answer held against the document's terms taken word for word. */
    private static void anyCalls(int run) {
        CausalCheck x = new CausalCheck();
        Literal due = new Literal();
        for (int call = 1; call <= CALLS; call++) {
            String name = "run " + run + ", call " + call + ", ";
            int user = next(12) == 0 ? next(7) - 2 : next(3);
            int cell = next(12) == 0 ? next(5) - 1 : next(2);
            int a = next(9) - 1;
            int b = next(9) - 1;
            switch (next(12)) {
                case 0, 1 -> Due.is(name + "back", x.back(), due.back());
                case 2, 3 -> Due.is(name + "write", x.write(user, cell), due.write(user, cell));
                case 4, 5, 6 -> Due.is(name + "read", x.read(user, cell, a), due.read(user, cell, a));
                case 7 -> Due.is(name + "before", x.before(a, b), due.before(a, b));
                case 8 -> Due.is(name + "weak", x.weak(a), due.weak(a));
                case 9 -> Due.is(name + "strong", x.strong(a), due.strong(a));
                case 10 -> Due.is(name + "sound", x.sound(), due.sound());
                default -> Due.is(name + "choices", x.choices(user, cell), due.choices(user, cell));
            }
        }
    }

    private static int next(int bound) {
        seed = seed * 6364136223846793005L + 1442695040888963407L;
        return (int) ((seed >>> 33) % bound);
    }
}
