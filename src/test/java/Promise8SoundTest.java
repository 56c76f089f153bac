/** Promise 8: sound. */
public final class Promise8SoundTest {
    public static void main(String[] args) {
        CausalCheck x = new CausalCheck();
        Due.is("sound() of none", x.sound(), 7);
        x.write(0, 0);
        x.write(1, 0);
        x.read(2, 0, 0);
        x.read(2, 0, 1);
        Due.is("sound() in one order", x.sound(), 7);
        x.read(2, 0, 0);
        Due.is("sound() to and fro: weakly alone", x.sound(), 1);
        x.write(0, 1);
        Due.is("sound() with a later sound write", x.sound(), 1);
        x.read(2, 0, -1);
        Due.is("sound() with a read of none", x.sound(), 0);
        x.back();
        x.back();
        x.back();
        Due.is("sound() after back", x.sound(), 7);
        x.back();
        x.back();

        // Each sees the other's write last: no one order of the writes.
        x.read(0, 0, 1);
        x.read(1, 0, 0);
        Due.is("sound() crosswise: weakly and strongly", x.sound(), 3);

        // The writes have an order, but user 1's reads have no row.
        CausalCheck y = new CausalCheck();
        y.write(0, 0);
        y.write(0, 1);
        y.write(0, 0);
        y.write(1, 1);
        y.read(1, 0, -1);
        y.read(1, 0, 2);
        Due.is("sound() before the last read", y.sound(), 7);
        y.read(1, 1, 3);
        Due.is("sound(): weakly and converging", y.sound(), 5);

        // A read of none is no wrong where the write is not in its past.
        CausalCheck z = new CausalCheck();
        z.write(0, 0);
        z.read(1, 0, -1);
        Due.is("sound() of none, not in the past", z.sound(), 7);
        z.read(0, 0, -1);
        Due.is("sound() of none, in the past", z.sound(), 0);
        z.write(2, 1);
        z.read(2, 1, 3);
        Due.is("sound() with sound operations after a wrong one", z.sound(), 0);
        z.back();
        z.back();
        z.back();
        z.read(1, 0, 0);
        z.read(1, 0, -1);
        Due.is("sound() of none after the write was read", z.sound(), 0);

        // The orders of two cells close a circle through the users' own orders.
        CausalCheck c = new CausalCheck();
        c.write(0, 0);
        c.write(0, 1);
        c.write(1, 1);
        c.write(1, 0);
        c.read(0, 1, 2);
        Due.is("sound() half a circle", c.sound(), 7);
        c.read(1, 0, 0);
        Due.is("sound() a circle", c.sound(), 3);

        // The one order of the writes is 2, 1, 0.
        CausalCheck d = new CausalCheck();
        d.write(0, 0);
        d.write(1, 0);
        d.write(2, 0);
        d.read(1, 0, 0);
        d.read(2, 0, 1);
        Due.is("sound() with the writes in falling order", d.sound(), 7);
        d.read(0, 0, 2);
        Due.is("sound() with the writes in a ring", d.sound(), 3);
        Due.end();
    }
}
