/** Promise 9: choices. */
public final class Promise9ChoicesTest {
    public static void main(String[] args) {
        CausalCheck x = new CausalCheck();
        Due.is("choices(0, 0) of none", x.choices(0, 0), 128);
        x.write(0, 0);
        Due.is("choices(0, 0) of the writer", x.choices(0, 0), 1);
        Due.is("choices(1, 0) of another", x.choices(1, 0), 129);
        Due.is("choices(0, 1) of the other cell", x.choices(0, 1), 128);
        x.write(1, 0);
        x.write(1, 0);
        x.write(1, 1);
        Due.is("choices(0, 0)", x.choices(0, 0), 1 + 2 + 4);
        Due.is("choices(1, 0)", x.choices(1, 0), 1 + 4);
        Due.is("choices(2, 0)", x.choices(2, 0), 128 + 1 + 2 + 4);
        Due.is("choices(2, 1)", x.choices(2, 1), 128 + 8);
        x.read(2, 0, 0);
        x.read(2, 0, 1);
        Due.is("choices(1, 0) once 0 stands before 1", x.choices(1, 0), 4);
        Due.is("choices(2, 0) once 0 stands before 1", x.choices(2, 0), 2 + 4);

        String six = Due.view(x);
        int[] noUsers = {-1, 3, Integer.MIN_VALUE, Integer.MAX_VALUE};
        int[] noCells = {-1, 2, Integer.MIN_VALUE, Integer.MAX_VALUE};
        for (int user : noUsers) {
            Due.is("choices(" + user + ", 0)", x.choices(user, 0), -1);
        }
        for (int cell : noCells) {
            Due.is("choices(0, " + cell + ")", x.choices(0, cell), -1);
        }
        Due.same("choices", Due.view(x), six);

        // Asking with all the room taken, and what is held stays as it was.
        x.write(0, 0);
        Due.is("choices(0, 0) without room", x.choices(0, 0), 2 + 4 + 64);
        Due.is("choices(2, 1) without room", x.choices(2, 1), 8 + 128);
        Due.is("weak(6)", x.weak(6), 1);
        Due.is("weak(7)", x.weak(7), -1);
        Due.is("before(0, 6)", x.before(0, 6), 1);
        Due.is("write(0, 0) without room", x.write(0, 0), -1);
        Due.is("back()", x.back(), 6);
        Due.is("choices(2, 0) after back", x.choices(2, 0), 2 + 4);

        // Nothing can be chosen where the history does not converge.
        CausalCheck y = new CausalCheck();
        y.write(0, 0);
        y.read(0, 0, -1);
        for (int user = 0; user < 3; user++) {
            Due.is("choices(" + user + ", 0) lost", y.choices(user, 0), 0);
            Due.is("choices(" + user + ", 1) lost", y.choices(user, 1), 0);
        }

        // Converging is asked for, not strongly sound: the read of 3 is a choice.
        CausalCheck z = new CausalCheck();
        z.write(0, 0);
        z.write(0, 1);
        z.write(0, 0);
        z.write(1, 1);
        z.read(1, 0, -1);
        z.read(1, 0, 2);
        Due.is("choices(1, 1) across the cells", z.choices(1, 1), 2 + 8);
        Due.end();
    }
}
