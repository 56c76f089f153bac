/** The example of README.md, line for line. */
public final class ReadmeExampleTest {
    public static void main(String[] args) {
        Due.by("README.md", "Use");
        CausalCheck x = new CausalCheck();
        Due.is("x.write(0, 0)", x.write(0, 0), 0);
        Due.is("x.write(1, 0)", x.write(1, 0), 1);
        Due.is("x.read(2, 0, 0)", x.read(2, 0, 0), 2);
        Due.is("x.read(2, 0, 1)", x.read(2, 0, 1), 3);
        Due.is("x.before(1, 3)", x.before(1, 3), 1);
        Due.is("x.before(0, 1)", x.before(0, 1), 0);
        Due.is("x.sound()", x.sound(), 7);
        Due.is("x.choices(2, 0)", x.choices(2, 0), 2);
        Due.is("x.choices(0, 0)", x.choices(0, 0), 3);
        Due.is("x.read(2, 0, 0)", x.read(2, 0, 0), 4);
        Due.is("x.weak(4)", x.weak(4), 1);
        Due.is("x.strong(4)", x.strong(4), 0);
        Due.is("x.sound()", x.sound(), 1);
        Due.is("x.back()", x.back(), 4);
        Due.is("x.write(3, 0)", x.write(3, 0), -1);
        Due.end();
    }
}
