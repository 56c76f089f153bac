/** Counts and prints the answers that are not the ones that are due. */
final class Due {
    private static int wrong = 0;
    private static String sentence = "";

    private Due() {
    }

    /** Names the sentence of the document that the following answers are held against. */
    static void by(String where, String words) {
        sentence = where + ", \"" + words + "\": ";
    }

    static void is(String call, long got, long want) {
        if (got != want) {
            wrong++;
            System.out.println(sentence + call + " answered " + got + ", due is " + want);
        }
    }

    static void end() {
        System.out.println(wrong == 0 ? "all answers are as due" : wrong + " answers are not as due");
        if (wrong != 0) {
            System.exit(1);
        }
    }

    /** All that can be asked of an object in 70 calls, so that two states can be told apart. */
    static String view(CausalCheck x) {
        StringBuilder seen = new StringBuilder();
        for (int a = 0; a < 7; a++) {
            seen.append(x.weak(a)).append(' ').append(x.strong(a)).append(' ');
            for (int b = 0; b < 7; b++) {
                seen.append(x.before(a, b)).append(' ');
            }
        }
        seen.append(x.sound());
        for (int user = 0; user < 3; user++) {
            for (int cell = 0; cell < 2; cell++) {
                seen.append(' ').append(x.choices(user, cell));
            }
        }
        return seen.toString();
    }

    static void same(String what, String got, String want) {
        if (!got.equals(want)) {
            wrong++;
            System.out.println(sentence + what + " left " + got + ", due is " + want);
        }
    }
}
