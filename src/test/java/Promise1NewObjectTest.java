/** Promise 1: a new object holds no operation. */
public final class Promise1NewObjectTest {
    public static void main(String[] args) {
        CausalCheck x = new CausalCheck();
        Due.is("back()", x.back(), -1);
        Due.is("sound()", x.sound(), 7);
        for (int operation = -1; operation <= 8; operation++) {
            Due.is("weak(" + operation + ")", x.weak(operation), -1);
            Due.is("strong(" + operation + ")", x.strong(operation), -1);
            Due.is("before(" + operation + ", 0)", x.before(operation, 0), -1);
        }
        for (int user = 0; user < 3; user++) {
            for (int cell = 0; cell < 2; cell++) {
                Due.is("choices(" + user + ", " + cell + ")", x.choices(user, cell), 128);
            }
        }
        Due.is("the first write", x.write(0, 0), 0);

        // Objects share nothing.
        CausalCheck y = new CausalCheck();
        Due.is("back() of a second object", y.back(), -1);
        Due.is("a second object's first read", y.read(2, 1, -1), 0);
        Due.is("back() of the first object", x.back(), 0);
        Due.is("before(0, 0) of the second object", y.before(0, 0), 0);
        Due.end();
    }
}
