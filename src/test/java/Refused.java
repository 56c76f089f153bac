import java.util.Arrays;
import java.util.HashMap;
import java.util.Map;
import java.util.function.ToIntFunction;

/** Holds a call against: "it answers -1 and changes nothing". */
final class Refused {
    /** Far and near, and such that look right when some bits are dropped or a shift wraps round. */
    private static final int[] FAR = {
        Integer.MIN_VALUE, Integer.MIN_VALUE + 1, Integer.MIN_VALUE + 2, -65536, -65535, -256, -255, -128, -64,
        -32, -31, -8, -7, -6, -5, -4, -3, -2, -1, 0, 1, 2, 3, 4, 5, 6, 7, 8, 9, 15, 16, 31, 32, 33, 34, 63, 64, 65,
        127, 128, 255, 256, 257, 65535, 65536, 65537, Integer.MAX_VALUE - 1, Integer.MAX_VALUE,
    };
    private static final Map<History, String> UNTOUCHED = new HashMap<>();

    private Refused() {
    }

    /** Numbers outside the range from least to greatest. */
    static int[] outside(int least, int greatest) {
        return Arrays.stream(FAR).filter(n -> n < least || n > greatest).toArray();
    }

    static void check(History history, String call, ToIntFunction<CausalCheck> made) {
        String untouched = UNTOUCHED.computeIfAbsent(history, h -> future(h, x -> -1));
        Due.is(call + " with " + history.name, made.applyAsInt(history.made()), -1);
        Due.same(call + " with " + history.name, future(history, made), untouched);
    }

    /** What later calls show: at once, and after taking out some operations or all of them. */
    private static String future(History history, ToIntFunction<CausalCheck> call) {
        StringBuilder seen = new StringBuilder();
        for (int backs = 0; backs <= history.size() + 1; backs++) {
            CausalCheck asked = history.made();
            call.applyAsInt(asked);
            for (int i = 0; i < backs; i++) {
                seen.append(asked.back()).append(' ');
            }
            seen.append(Due.view(asked)).append('\n');
            for (int user = 0; user < 3; user++) {
                CausalCheck goingOn = history.made();
                call.applyAsInt(goingOn);
                for (int i = 0; i < backs; i++) {
                    goingOn.back();
                }
                addAndTakeOut(goingOn, user, seen);
            }
        }
        return seen.toString();
    }

    /** Each operation that the user may add, and what is before it. */
    private static void addAndTakeOut(CausalCheck x, int user, StringBuilder seen) {
        for (int cell = 0; cell < 2; cell++) {
            for (int source = History.WRITE; source < 7; source++) {
                int number = History.add(x, new int[] {user, cell, source});
                seen.append(number).append(':');
                if (number >= 0) {
                    for (int a = 0; a < number; a++) {
                        seen.append(x.before(a, number));
                    }
                    seen.append(x.back());
                }
                seen.append(' ');
            }
        }
        seen.append('\n');
    }
}
