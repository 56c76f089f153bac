/** The sentences of "Terms" in their order, each on ordinary histories; TermsEdgesTest has the edges. */
public final class TermsTest {
    public static void main(String[] args) {
        operationsAreNumbered();
        eachHasItsUser();
        eachHasItsCell();
        aWriteOrARead();
        beforeByTheUser();
        beforeByTheNamedWrite();
        beforeByAChain();
        beforeByNothingElse();
        thePastIsAllThatIsBefore();
        aRowKeepsTheOrder();
        aRowIsFreeWhereThereIsNoOrder();
        rightByTheLastWrite();
        rightByNoWrite();
        weaklySound();
        stronglySound();
        theHistoryIsSoundIfAllAre();
        converges();
        convergesByOneRowForAllReads();
        convergesByThePastOfEachRead();
        wrongArgumentsAreRefused();
        Due.end();
    }

    private static CausalCheck made(int[]... operations) {
        return new History("this", operations).made();
    }

    private static int[] w(int user, int cell) {
        return History.w(user, cell);
    }

    private static int[] r(int user, int cell, int source) {
        return History.r(user, cell, source);
    }

    private static void operationsAreNumbered() {
        Due.by("Terms", "OPERATIONS are numbered from 0 in the order in which they are added; at most 7 are held.");
        CausalCheck x = new CausalCheck();
        Due.is("write(2, 1)", x.write(2, 1), 0);
        Due.is("read(0, 0, -1)", x.read(0, 0, -1), 1);
        Due.is("read(1, 1, 0)", x.read(1, 1, 0), 2);
        Due.is("write(0, 1)", x.write(0, 1), 3);
        Due.is("back()", x.back(), 3);
        Due.is("write(1, 0)", x.write(1, 0), 3);
        for (int number = 4; number < 7; number++) {
            Due.is("write(2, 0)", x.write(2, 0), number);
        }
        Due.is("an eighth", x.write(2, 0), -1);
    }

    private static void eachHasItsUser() {
        Due.by("Terms", "Each belongs to a USER (0 to 2)");
        for (int user = 0; user < 3; user++) {
            for (int other = 0; other < 3; other++) {
                CausalCheck x = made(w(user, 0), w(other, 1));
                Due.is("before(0, 1) of users " + user + " and " + other, x.before(0, 1), user == other ? 1 : 0);
            }
        }
    }

    private static void eachHasItsCell() {
        Due.by("Terms", "and is about a CELL (0 or 1).");
        for (int cell = 0; cell < 2; cell++) {
            CausalCheck x = made(w(0, cell));
            Due.is("read of cell 0 that names a write about " + cell, x.read(1, 0, 0), cell == 0 ? 1 : -1);
            CausalCheck y = made(w(0, cell));
            Due.is("read of cell 1 that names a write about " + cell, y.read(1, 1, 0), cell == 1 ? 1 : -1);
        }
    }

    private static void aWriteOrARead() {
        Due.by("Terms", "It is a WRITE, or a READ that names the write that it read from [..], or none");
        CausalCheck x = made(w(0, 0), r(1, 0, 0), r(2, 0, -1));
        Due.is("a read that names a read", x.read(0, 0, 1), -1);
        Due.is("a read that names a read of none", x.read(0, 0, 2), -1);
        Due.is("a read that names an operation still to come", x.read(0, 0, 4), -1);
        Due.is("a read that names the write", x.read(0, 0, 0), 3);
        Due.is("before(0, 1) of a read that names the write", x.before(0, 1), 1);
        Due.is("before(0, 2) of a read that names none", x.before(0, 2), 0);
    }

    private static void beforeByTheUser() {
        Due.by("Terms", "both belong to the same user and a < b");
        CausalCheck x = made(w(0, 0), r(1, 1, -1), r(0, 1, -1), w(1, 0), w(0, 1));
        int[][] due = {{0, 2}, {0, 4}, {2, 4}, {1, 3}};
        for (int[] pair : due) {
            Due.is("before(" + pair[0] + ", " + pair[1] + ")", x.before(pair[0], pair[1]), 1);
            Due.is("before(" + pair[1] + ", " + pair[0] + ")", x.before(pair[1], pair[0]), 0);
        }
    }

    private static void beforeByTheNamedWrite() {
        Due.by("Terms", "or b is a read that names a");
        CausalCheck x = made(w(0, 0), w(1, 0), w(1, 1), r(2, 0, 0));
        Due.is("before(0, 3), the one that it names", x.before(0, 3), 1);
        Due.is("before(1, 3), about the same cell", x.before(1, 3), 0);
        Due.is("before(2, 3)", x.before(2, 3), 0);
        Due.is("before(3, 0)", x.before(3, 0), 0);
    }

    private static void beforeByAChain() {
        Due.by("Terms", "or a is before some c and c is before b");
        CausalCheck byUserThenName = made(w(0, 0), w(0, 1), r(1, 1, 1));
        Due.is("before(0, 2), same user and then named", byUserThenName.before(0, 2), 1);
        CausalCheck byNameThenUser = made(w(0, 0), r(1, 0, 0), w(1, 1));
        Due.is("before(0, 2), named and then same user", byNameThenUser.before(0, 2), 1);
        CausalCheck byTwoNames = made(w(0, 0), r(1, 0, 0), w(1, 0), r(2, 0, 2), r(2, 1, -1));
        Due.is("before(0, 3), through user 1", byTwoNames.before(0, 3), 1);
        Due.is("before(0, 4), through users 1 and 2", byTwoNames.before(0, 4), 1);
        Due.is("before(1, 4), a read", byTwoNames.before(1, 4), 1);
    }

    private static void beforeByNothingElse() {
        Due.by("Terms", "Operation a is BEFORE operation b if one of these holds");
        // What the writer or the reader does afterwards has no part in it.
        CausalCheck x = made(w(0, 0), r(1, 0, 0), w(0, 0), w(1, 0), w(2, 0), r(2, 1, -1));
        int[][] due = {{1, 2}, {2, 3}, {3, 4}, {0, 4}, {0, 5}, {2, 5}};
        for (int[] pair : due) {
            Due.is("before(" + pair[0] + ", " + pair[1] + ")", x.before(pair[0], pair[1]), 0);
        }
    }

    private static void thePastIsAllThatIsBefore() {
        Due.by("Terms", "The PAST of an operation b is the set of all operations before it, and b.");
        // The overwriting write 1 comes into the last read's past with write 2 only.
        CausalCheck without = made(w(0, 0), w(1, 0), w(1, 1), r(2, 0, 0), r(2, 0, 0));
        Due.is("choices(2, 0) with 1 not in the past", without.choices(2, 0), 1 + 2);
        CausalCheck with = made(w(0, 0), r(1, 0, 0), w(1, 0), w(1, 1), r(2, 1, 3), r(2, 0, 0));
        Due.is("weak(5) with 2 in the past", with.weak(5), 0);
        CausalCheck later = made(w(0, 0), r(1, 0, 0), w(1, 0), w(1, 1), r(2, 0, 0), r(2, 1, 3));
        Due.is("weak(4) with 2 in a later read's past", later.weak(4), 1);
        Due.is("weak(5) with 2 in the past", later.weak(5), 1);
    }

    private static void aRowKeepsTheOrder() {
        Due.by("Terms", "A ROW [..] in which a stands earlier than b whenever a is before b.");
        CausalCheck sameUser = made(w(0, 0), w(0, 0), w(0, 1), r(1, 1, 2), r(1, 0, 0));
        Due.is("weak(4), one user's writes turned round", sameUser.weak(4), 0);
        Due.is("strong(4), one user's writes turned round", sameUser.strong(4), 0);
        Due.is("sound(), one user's writes turned round", sameUser.sound(), 0);
        // The order of the writes 0 and 2 comes through a read alone.
        CausalCheck throughRead = made(w(0, 0), r(1, 0, 0), w(1, 0), r(2, 0, 2), r(2, 0, 0));
        Due.is("weak(4), an order through a read", throughRead.weak(4), 0);
        Due.is("strong(4), an order through a read", throughRead.strong(4), 0);
        Due.is("sound(), an order through a read", throughRead.sound(), 0);
        // The writes 0 and 3 about cell 0 are ordered by what went over cell 1.
        CausalCheck throughCell = made(w(0, 0), w(0, 1), r(1, 1, 1), w(1, 0), r(2, 0, 3), r(2, 0, 0));
        Due.is("weak(5), an order through the other cell", throughCell.weak(5), 0);
        Due.is("sound(), an order through the other cell", throughCell.sound(), 0);
        // No read sees both writes 0 and 2 but the last one: only the order keeps them from turning round.
        CausalCheck unseen = made(w(0, 0), r(1, 0, 0), w(1, 0), w(1, 1), r(2, 1, 3));
        Due.is("sound() before the read", unseen.sound(), 7);
        Due.is("choices(2, 0), an order that no read tells", unseen.choices(2, 0), 4);
        unseen.read(2, 0, 0);
        Due.is("sound(), an order that no read tells", unseen.sound(), 0);
    }

    private static void aRowIsFreeWhereThereIsNoOrder() {
        Due.by("Terms", "A ROW of some operations is an order of them");
        for (int first = 0; first < 2; first++) {
            CausalCheck x = made(w(0, 0), w(1, 0), r(2, 0, first), r(2, 0, 1 - first));
            Due.is("strong(3), write " + first + " first", x.strong(3), 1);
            Due.is("sound(), write " + first + " first", x.sound(), 7);
        }
        // All of user 2's reads stand before or after each write, as they need it.
        CausalCheck y = made(w(0, 0), w(1, 0), r(2, 0, -1), r(2, 0, 1), r(2, 0, 0), r(2, 0, 0));
        Due.is("strong(5)", y.strong(5), 1);
    }

    private static void rightByTheLastWrite() {
        Due.by("Terms", "a read is RIGHT if the last write about its cell that stands earlier [..] is the one that it names");
        CausalCheck x = made(w(0, 0), w(0, 0), w(0, 1), r(0, 0, 1), r(0, 0, 0), r(0, 1, 2));
        Due.is("weak(3), the last write about its cell", x.weak(3), 1);
        Due.is("weak(4), an earlier one", x.weak(4), 0);
        Due.is("weak(5), the only one about its cell", x.weak(5), 1);
        Due.is("strong(3)", x.strong(3), 1);
        Due.is("strong(4)", x.strong(4), 0);
        // A write about the cell that stands later than the read takes nothing from it.
        CausalCheck y = made(w(0, 0), r(0, 0, 0), w(0, 0), r(0, 0, 2));
        Due.is("strong(3)", y.strong(3), 1);
    }

    private static void rightByNoWrite() {
        Due.by("Terms", "or if none stands earlier and it names none.");
        CausalCheck x = made(w(0, 1), r(0, 0, -1), w(0, 0), r(0, 0, -1), r(1, 0, -1));
        Due.is("weak(1), only the other cell is written", x.weak(1), 1);
        Due.is("weak(3), the cell is written", x.weak(3), 0);
        Due.is("weak(4), of a user without any write", x.weak(4), 1);
        Due.is("strong(1)", x.strong(1), 1);
        Due.is("strong(3)", x.strong(3), 0);
        Due.is("strong(4)", x.strong(4), 1);
    }

    private static void weaklySound() {
        Due.by("Terms", "An operation b is WEAKLY sound if it is a write, or there is a row of its past in which b is right.");
        // Reads 2 to 4 can't all be right in one row, but each can in its own.
        CausalCheck x = made(w(0, 0), w(1, 0), r(2, 0, 0), r(2, 0, 1), r(2, 0, 0), w(2, 0), r(2, 0, 1));
        int[] due = {1, 1, 1, 1, 1, 1, 0};
        for (int b = 0; b < 7; b++) {
            Due.is("weak(" + b + ")", x.weak(b), due[b]);
        }
    }

    private static void stronglySound() {
        Due.by("Terms", "It is STRONGLY sound if there is a row of its past in which all reads of b's user are right.");
        CausalCheck x = made(w(0, 0), w(1, 0), r(2, 0, 0), r(2, 0, 1), r(2, 0, 0), w(2, 1), r(0, 1, 5));
        int[] due = {1, 1, 1, 1, 0, 0, 1};
        for (int b = 0; b < 7; b++) {
            Due.is("strong(" + b + ")", x.strong(b), due[b]);
        }
    }

    private static void theHistoryIsSoundIfAllAre() {
        Due.by("Terms", "THE HISTORY is weakly (strongly) sound if all its operations are.");
        CausalCheck oneNotStrong = made(w(0, 0), w(1, 0), r(2, 0, 0), r(2, 0, 1), r(2, 0, 0), r(1, 0, 1), r(0, 1, -1));
        Due.is("sound() with 4 not strongly sound", oneNotStrong.sound(), 1);
        // Its later operations are sound again, and so are all of the other users'.
        CausalCheck oneNotWeak = made(w(0, 0), r(0, 0, -1), r(1, 0, 0), w(1, 1), r(2, 1, 3));
        Due.is("weak(1)", oneNotWeak.weak(1), 0);
        Due.is("weak(4)", oneNotWeak.weak(4), 1);
        Due.is("strong(4)", oneNotWeak.strong(4), 1);
        Due.is("sound() with 1 not weakly sound", oneNotWeak.sound(), 0);
        CausalCheck all = made(w(0, 0), r(0, 0, 0), r(1, 0, 0), w(1, 1), r(2, 1, 3));
        Due.is("sound() with all sound", all.sound(), 7);
    }

    private static void converges() {
        Due.by("Terms", "It CONVERGES if there is a row of all its writes such that, for each read r, [..]");
        CausalCheck x = made(w(0, 0), w(1, 0), r(0, 0, 1), r(1, 0, 1));
        Due.is("sound() where both see write 1 last", x.sound(), 7);
        CausalCheck y = made(w(0, 0), w(1, 0), r(0, 0, 0), r(1, 0, 0));
        Due.is("sound() where both see write 0 last", y.sound(), 7);
        CausalCheck z = made(w(0, 0), w(1, 0), r(0, 0, 1), r(1, 0, 0));
        Due.is("sound() where each sees the other's write last", z.sound(), 3);
    }

    private static void convergesByOneRowForAllReads() {
        Due.by("Terms", "there is a row of all its writes (one row for all reads)");
        // Each pair of writes is seen by one user; the three views go round in a ring.
        int[][] ring = {w(0, 0), w(1, 0), w(2, 0), r(0, 0, 1), r(1, 0, 2), r(2, 0, 0)};
        Due.is("sound() of a ring", made(ring).sound(), 3);
        int[][] noRing = {w(0, 0), w(1, 0), w(2, 0), r(0, 0, 1), r(1, 0, 2), r(2, 0, 2)};
        Due.is("sound() without the ring", made(noRing).sound(), 7);
        // Each of these reads can be met by a row of its own cell's writes, but both cells share one row.
        int[][] firstsSeenLast = {w(0, 0), w(0, 1), w(1, 1), w(1, 0), r(0, 1, 2), r(1, 0, 0)};
        Due.is("sound() where each sees the other's first write last", made(firstsSeenLast).sound() & 4, 0);
        int[][] lastsSeenLast = {w(0, 0), w(0, 1), w(1, 1), w(1, 0), r(0, 0, 3), r(1, 1, 1)};
        Due.is("sound() where each sees the other's last write last", made(lastsSeenLast).sound() & 4, 4);
    }

    private static void convergesByThePastOfEachRead() {
        Due.by("Terms", "the last write about r's cell in it that is in r's past is the one that r names (or no write [..])");
        // Write 1 stands last in the row, yet user 2 has not seen it.
        CausalCheck x = made(w(0, 0), w(1, 0), r(0, 0, 1), r(2, 0, 0));
        Due.is("sound() with a later write not in the past", x.sound(), 7);
        Due.is("choices(2, 0)", x.choices(2, 0), 1 + 2);
        Due.is("choices(0, 0)", x.choices(0, 0), 2);
        Due.is("choices(1, 0)", x.choices(1, 0), 2);
        Due.is("choices(2, 1), no write about the cell", x.choices(2, 1), 128);
        CausalCheck y = made(w(0, 0), r(1, 0, -1), r(2, 1, -1), r(0, 1, -1));
        Due.is("sound() with none in the past", y.sound(), 7);
        y.read(0, 0, -1);
        Due.is("sound() with one in the past of a read of none", y.sound() & 4, 0);
    }

    private static void wrongArgumentsAreRefused() {
        Due.by("Terms", "A call with an argument that is not as said is refused: it answers -1 and changes nothing.");
        History history = new History("three held", w(0, 0), w(1, 1), r(2, 0, 0));
        Refused.check(history, "write(3, 0)", x -> x.write(3, 0));
        Refused.check(history, "write(0, -1)", x -> x.write(0, -1));
        Refused.check(history, "read(-1, 0, 0)", x -> x.read(-1, 0, 0));
        Refused.check(history, "read(0, 2, -1)", x -> x.read(0, 2, -1));
        Refused.check(history, "read(0, 0, 1), of the other cell", x -> x.read(0, 0, 1));
        Refused.check(history, "read(0, 0, 2), of a read", x -> x.read(0, 0, 2));
        Refused.check(history, "read(0, 0, 3), not held", x -> x.read(0, 0, 3));
        Refused.check(history, "before(0, 3)", x -> x.before(0, 3));
        Refused.check(history, "weak(3)", x -> x.weak(3));
        Refused.check(history, "strong(3)", x -> x.strong(3));
        Refused.check(history, "choices(3, 0)", x -> x.choices(3, 0));
        Refused.check(history, "choices(0, 2)", x -> x.choices(0, 2));
    }
}
