/** Promise 2: write. */
public final class Promise2WriteTest {
    public static void main(String[] args) {
        int[] noUsers = {-1, 3, 4, Integer.MIN_VALUE, Integer.MAX_VALUE};
        int[] noCells = {-1, 2, 3, Integer.MIN_VALUE, Integer.MAX_VALUE};
        CausalCheck x = new CausalCheck();
        int number = 0;
        for (int user = 0; user < 3; user++) {
            for (int cell = 0; cell < 2; cell++) {
                Due.is("write(" + user + ", " + cell + ")", x.write(user, cell), number);
                number++;
            }
        }
        String six = Due.view(x);
        for (int user : noUsers) {
            Due.is("write(" + user + ", 0)", x.write(user, 0), -1);
        }
        for (int cell : noCells) {
            Due.is("write(0, " + cell + ")", x.write(0, cell), -1);
        }
        Due.same("refused writes", Due.view(x), six);

        CausalCheck full = new CausalCheck();
        for (int i = 0; i < 7; i++) {
            Due.is("write " + i, full.write(i % 3, i % 2), i);
        }
        String seven = Due.view(full);
        Due.is("an eighth write", full.write(0, 0), -1);
        Due.is("a wrong eighth write", full.write(3, 0), -1);
        Due.same("a write without room", Due.view(full), seven);
        Due.is("back()", full.back(), 6);
        Due.is("a write where room was made", full.write(2, 1), 6);

        // What is added is a write, of that user and about that cell.
        CausalCheck y = new CausalCheck();
        Due.is("write(1, 1)", y.write(1, 1), 0);
        Due.is("read(0, 0, 0)", y.read(0, 0, 0), -1);
        Due.is("read(0, 1, 0)", y.read(0, 1, 0), 1);
        Due.is("write(1, 0)", y.write(1, 0), 2);
        Due.is("before(0, 2)", y.before(0, 2), 1);
        Due.is("before(1, 2)", y.before(1, 2), 0);
        Due.end();
    }
}
