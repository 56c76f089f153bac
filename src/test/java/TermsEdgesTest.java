/** The sentences of "Terms" that name a boundary, each with a test of its own. */
public final class TermsEdgesTest {
    public static void main(String[] args) {
        numberedFromZero();
        atMostSevenAreHeld();
        userFromZeroToTwo();
        cellZeroOrOne();
        sourceHasALesserNumber();
        sourceIsAWrite();
        sourceIsAboutTheSameCell();
        sourceIsNone();
        beforeMeansLesser();
        beforeThroughTheLongestChain();
        thePastHoldsTheOperation();
        rightIfNoneStandsEarlier();
        weaklySoundIfAWrite();
        stronglySoundWithoutAnyRead();
        convergesWithoutAnyWrite();
        convergesWithNoWriteAboutTheCellInThePast();
        aRefusedCallChangesNothing();
        refusedCallsInARow();
        Due.end();
    }

    private static void numberedFromZero() {
        Due.by("Terms", "OPERATIONS are numbered from 0 in the order in which they are added");
        CausalCheck x = new CausalCheck();
        for (int round = 0; round < 3; round++) {
            for (int i = 0; i < 7; i++) {
                Due.is("operation " + i, i % 2 == 0 ? x.write(1, 0) : x.read(2, 0, i - 1), i);
            }
            for (int i = 6; i >= 0; i--) {
                Due.is("back()", x.back(), i);
            }
        }
    }

    private static void atMostSevenAreHeld() {
        Due.by("Terms", "at most 7 are held");
        History[] sevens = {History.SEVEN, History.SEVEN_WRITES, History.SEVEN_READS, History.SEVEN_LOST};
        for (History seven : sevens) {
            CausalCheck x = seven.made();
            for (int i = 0; i < 10; i++) {
                Due.is("write(0, 0), " + seven.name, x.write(0, 0), -1);
                Due.is("read(0, 0, -1), " + seven.name, x.read(0, 0, -1), -1);
            }
            Due.is("weak(7), " + seven.name, x.weak(7), -1);
            Due.is("back(), " + seven.name, x.back(), 6);
            Due.is("write(0, 0) where six are held", x.write(0, 0), 6);
            Due.is("write(0, 0) where seven are held again", x.write(0, 0), -1);
        }
    }

    private static void userFromZeroToTwo() {
        Due.by("Terms", "Each belongs to a USER (0 to 2)");
        for (int user = 0; user <= 2; user++) {
            CausalCheck x = new CausalCheck();
            Due.is("write by user " + user, x.write(user, 0), 0);
            Due.is("read by user " + user, x.read(user, 0, 0), 1);
            Due.is("choices of user " + user, x.choices(user, 0), 1);
            for (int other = 0; other <= 2; other++) {
                Due.is("choices of user " + other, x.choices(other, 0), other == user ? 1 : 129);
            }
        }
        for (int user : Refused.outside(0, 2)) {
            CausalCheck x = new CausalCheck();
            Due.is("write by user " + user, x.write(user, 0), -1);
            Due.is("read by user " + user, x.read(user, 0, -1), -1);
            Due.is("choices of user " + user, x.choices(user, 0), -1);
            Due.is("back()", x.back(), -1);
        }
    }

    private static void cellZeroOrOne() {
        Due.by("Terms", "and is about a CELL (0 or 1)");
        for (int cell = 0; cell <= 1; cell++) {
            CausalCheck x = new CausalCheck();
            Due.is("write about cell " + cell, x.write(0, cell), 0);
            Due.is("read about cell " + cell, x.read(0, cell, 0), 1);
            Due.is("choices for cell " + cell, x.choices(0, cell), 1);
            Due.is("choices for the other cell", x.choices(0, 1 - cell), 128);
        }
        for (int cell : Refused.outside(0, 1)) {
            CausalCheck x = new CausalCheck();
            Due.is("write about cell " + cell, x.write(0, cell), -1);
            Due.is("read about cell " + cell, x.read(0, cell, -1), -1);
            Due.is("choices for cell " + cell, x.choices(0, cell), -1);
            Due.is("back()", x.back(), -1);
        }
    }

    private static void sourceHasALesserNumber() {
        Due.by("Terms", "an operation with a lesser number");
        CausalCheck x = new CausalCheck();
        for (int own = 0; own < 6; own++) {
            for (int source : Refused.outside(-1, own - 1)) {
                Due.is("read " + own + " that names " + source, x.read(1, 0, source), -1);
            }
            Due.is("write " + own, x.write(0, 0), own);
        }
        Due.is("read 6 that names itself", x.read(1, 0, 6), -1);
        Due.is("read 6 that names 5, the greatest lesser number", x.read(1, 0, 5), 6);
        Due.is("back()", x.back(), 6);
        Due.is("read 6 that names 0, the least number", x.read(1, 0, 0), 6);

        // What back took out has no number any more, though a later operation may get it.
        CausalCheck y = new CausalCheck();
        y.write(0, 0);
        y.write(0, 0);
        Due.is("back()", y.back(), 1);
        Due.is("read 1 that names what was 1", y.read(1, 0, 1), -1);
        Due.is("read 1 that names 0", y.read(1, 0, 0), 1);
    }

    private static void sourceIsAWrite() {
        Due.by("Terms", "a write about the same cell (not a read)");
        CausalCheck x = new CausalCheck();
        x.read(0, 0, -1);
        x.write(0, 0);
        x.read(1, 0, 1);
        Due.is("a read that names a read of none", x.read(0, 0, 0), -1);
        Due.is("a read that names a read of a write", x.read(0, 0, 2), -1);
        Due.is("a read that names the write", x.read(0, 0, 1), 3);
    }

    private static void sourceIsAboutTheSameCell() {
        Due.by("Terms", "a write about the same cell");
        CausalCheck x = new CausalCheck();
        x.write(0, 0);
        x.write(0, 1);
        Due.is("read of cell 1 that names a write about cell 0", x.read(2, 1, 0), -1);
        Due.is("read of cell 0 that names a write about cell 1", x.read(2, 0, 1), -1);
        Due.is("read of cell 0 that names a write about cell 0", x.read(2, 0, 0), 2);
        Due.is("read of cell 1 that names a write about cell 1", x.read(2, 1, 1), 3);
    }

    private static void sourceIsNone() {
        Due.by("Terms", "or none: then it read what the cell held at the beginning");
        CausalCheck x = new CausalCheck();
        Due.is("read(0, 0, -2) with nothing held", x.read(0, 0, -2), -1);
        Due.is("read(0, 0, -1) with nothing held", x.read(0, 0, -1), 0);
        Due.is("weak(0)", x.weak(0), 1);
        Due.is("write(0, 0)", x.write(0, 0), 1);
        Due.is("read(1, 0, -1)", x.read(1, 0, -1), 2);
        Due.is("before(1, 2) of a read of none", x.before(1, 2), 0);
        Due.is("weak(2) of another user", x.weak(2), 1);
        Due.is("read(0, 0, -1)", x.read(0, 0, -1), 3);
        Due.is("weak(3) of the writer", x.weak(3), 0);
    }

    private static void beforeMeansLesser() {
        Due.by("Terms", "(Then a < b.)");
        for (History history : History.AT_EDGES) {
            CausalCheck x = history.made();
            for (int a = 0; a < history.size(); a++) {
                for (int b = 0; b <= a; b++) {
                    Due.is("before(" + a + ", " + b + "), " + history.name, x.before(a, b), 0);
                }
            }
        }
    }

    private static void beforeThroughTheLongestChain() {
        Due.by("Terms", "or a is before some c and c is before b");
        CausalCheck x = new CausalCheck();
        x.write(0, 0);
        x.read(1, 0, 0);
        x.write(1, 1);
        x.read(2, 1, 2);
        x.write(2, 0);
        x.read(0, 0, 4);
        x.write(0, 1);
        for (int a = 0; a < 7; a++) {
            for (int b = 0; b < 7; b++) {
                Due.is("before(" + a + ", " + b + ")", x.before(a, b), a < b ? 1 : 0);
            }
        }
        // With the first link gone, user 0's own order is all that is left of operation 0.
        CausalCheck y = new CausalCheck();
        y.write(0, 0);
        y.read(1, 0, -1);
        y.write(1, 1);
        y.read(2, 1, 2);
        Due.is("before(0, 3) without a link", y.before(0, 3), 0);
        Due.is("before(1, 3)", y.before(1, 3), 1);
    }

    private static void thePastHoldsTheOperation() {
        Due.by("Terms", "The PAST of an operation b is the set of all operations before it, and b");
        // Were the read not in its own past, no row could find it wrong.
        CausalCheck x = new CausalCheck();
        x.write(0, 0);
        x.read(0, 0, -1);
        Due.is("weak(1)", x.weak(1), 0);
        Due.is("strong(1)", x.strong(1), 0);
        Due.is("before(1, 1)", x.before(1, 1), 0);
    }

    private static void rightIfNoneStandsEarlier() {
        Due.by("Terms", "or if none stands earlier and it names none");
        CausalCheck x = new CausalCheck();
        x.write(0, 1);
        x.read(0, 0, -1);
        Due.is("weak(1) with a write about the other cell", x.weak(1), 1);
        Due.is("strong(1) with a write about the other cell", x.strong(1), 1);
        x.read(0, 1, -1);
        Due.is("weak(2) with a write about the cell", x.weak(2), 0);
        Due.is("strong(2) with a write about the cell", x.strong(2), 0);
        // The write of another user is in the past, but need not stand earlier than the read.
        CausalCheck y = new CausalCheck();
        y.write(0, 0);
        y.read(1, 0, -1);
        y.read(1, 0, 0);
        Due.is("strong(2) after a read of none", y.strong(2), 1);
    }

    private static void weaklySoundIfAWrite() {
        Due.by("Terms", "An operation b is WEAKLY sound if it is a write");
        CausalCheck x = new CausalCheck();
        x.write(0, 0);
        for (int i = 1; i < 6; i++) {
            x.read(0, 0, -1);
        }
        x.write(0, 0);
        Due.is("weak(0), the first", x.weak(0), 1);
        Due.is("weak(6), the last, after wrong reads", x.weak(6), 1);
        Due.is("strong(6), the last, after wrong reads", x.strong(6), 0);
    }

    private static void stronglySoundWithoutAnyRead() {
        Due.by("Terms", "a row of its past in which all reads of b's user are right (there is none)");
        CausalCheck x = History.SEVEN_WRITES.made();
        for (int b = 0; b < 7; b++) {
            Due.is("strong(" + b + ")", x.strong(b), 1);
        }
        // The wrong read is in the past of 3 and 4, but it is not that user's.
        CausalCheck y = new CausalCheck();
        y.write(0, 0);
        y.read(0, 0, -1);
        y.write(0, 1);
        y.read(1, 1, 2);
        y.write(1, 0);
        Due.is("strong(2) of the user of the wrong read", y.strong(2), 0);
        Due.is("strong(3) of another user", y.strong(3), 1);
        Due.is("strong(4) of another user", y.strong(4), 1);
    }

    private static void convergesWithoutAnyWrite() {
        Due.by("Terms", "It CONVERGES if there is a row of all its writes (there is none)");
        Due.is("sound() of nothing", new CausalCheck().sound(), 7);
        Due.is("sound() of seven reads", History.SEVEN_READS.made().sound(), 7);
    }

    private static void convergesWithNoWriteAboutTheCellInThePast() {
        Due.by("Terms", "or no write about r's cell is in r's past, and r names none");
        CausalCheck x = new CausalCheck();
        x.write(0, 0);
        x.write(1, 1);
        x.read(0, 1, -1);
        x.read(1, 0, -1);
        x.read(2, 0, -1);
        Due.is("sound() with writes that are elsewhere or not in the past", x.sound(), 7);
        x.read(0, 0, -1);
        Due.is("sound() with a write in the past", x.sound(), 0);
    }

    private static void aRefusedCallChangesNothing() {
        Due.by("Terms", "A call with an argument that is not as said is refused: it answers -1 and changes nothing.");
        for (History history : History.AT_EDGES) {
            for (int user : Refused.outside(0, 2)) {
                Refused.check(history, "write(" + user + ", 1)", x -> x.write(user, 1));
                Refused.check(history, "read(" + user + ", 0, -1)", x -> x.read(user, 0, -1));
                Refused.check(history, "choices(" + user + ", 0)", x -> x.choices(user, 0));
            }
            for (int cell : Refused.outside(0, 1)) {
                Refused.check(history, "write(2, " + cell + ")", x -> x.write(2, cell));
                Refused.check(history, "read(2, " + cell + ", -1)", x -> x.read(2, cell, -1));
                Refused.check(history, "choices(2, " + cell + ")", x -> x.choices(2, cell));
            }
            for (int source : Refused.outside(-1, history.size() - 1)) {
                Refused.check(history, "read(1, 0, " + source + ")", x -> x.read(1, 0, source));
                Refused.check(history, "read(1, 1, " + source + ")", x -> x.read(1, 1, source));
            }
        }
    }

    private static void refusedCallsInARow() {
        Due.by("Terms", "A call with an argument that is not as said is refused (many in a row)");
        for (History history : History.AT_EDGES) {
            Refused.check(history, "all wrong calls", x -> {
                int answers = -1;
                for (int wrong : Refused.outside(-1, 7)) {
                    answers = Math.max(answers, x.write(wrong, wrong));
                    answers = Math.max(answers, x.read(wrong, wrong, wrong));
                    answers = Math.max(answers, x.before(wrong, wrong));
                    answers = Math.max(answers, x.weak(wrong));
                    answers = Math.max(answers, x.strong(wrong));
                    answers = Math.max(answers, x.choices(wrong, wrong));
                }
                return answers;
            });
        }
    }
}
