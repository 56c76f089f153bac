/**
 * What three users of a store have read and written, and by which rules of order that may have
 * happened. Sets of operations are held as bits: operation o is the bit 1 << o.
 */
public final class CausalCheck {
    private static final int USERS = 3;
    private static final int CELLS = 2;
    private static final int CAPACITY = 7;
    // One slot more than the capacity: choices tries a read even when there is no room for it.
    private static final int SLOTS = 8;
    // Stands for "no write" wherever the number of a write may stand; no write ever has it,
    // since what is tried in the last slot is always a read.
    private static final int NONE = 7;

    // A state of a row that is being laid: the last write about cell 0 in bits 0 to 2, that about
    // cell 1 in bits 3 to 5, and above them the set of the operations laid so far.
    private static final int WRITE_BITS = 3;
    private static final int WRITE_MASK = 7;
    private static final int PLACED_SHIFT = 6;
    private static final int STATES_PER_SET = 64;
    private static final int STATES = 8192;
    private static final int EMPTY_ROW = 63;

    private final int[] userOf = new int[SLOTS];
    private final int[] cellOf = new int[SLOTS];
    private final boolean[] isWrite = new boolean[SLOTS];
    private final int[] sourceOf = new int[SLOTS];
    private final int[] past = new int[SLOTS];
    private final int[] mustPrecede = new int[SLOTS];
    private final boolean[] reached = new boolean[STATES];
    private int held = 0;

    public CausalCheck() {
    }

    public int write(int user, int cell) {
        if (!isUser(user) || !isCell(cell) || held >= CAPACITY) {
            return -1;
        }
        return add(user, cell, true, NONE);
    }

    public int read(int user, int cell, int source) {
        if (!isUser(user) || !isCell(cell) || held >= CAPACITY) {
            return -1;
        }
        if (source == -1) {
            return add(user, cell, false, NONE);
        }
        if (!isWriteAbout(source, cell)) {
            return -1;
        }
        return add(user, cell, false, source);
    }

    public int back() {
        if (held == 0) {
            return -1;
        }
        held--;
        return held;
    }

    public int before(int a, int b) {
        if (!isHeld(a) || !isHeld(b)) {
            return -1;
        }
        return a != b && contains(past[b], a) ? 1 : 0;
    }

    public int weak(int operation) {
        if (!isHeld(operation)) {
            return -1;
        }
        return isWeaklySound(operation) ? 1 : 0;
    }

    public int strong(int operation) {
        if (!isHeld(operation)) {
            return -1;
        }
        return isStronglySound(operation) ? 1 : 0;
    }

    public int sound() {
        boolean allWeak = true;
        boolean allStrong = true;
        for (int operation = 0; operation < held; operation++) {
            allWeak = allWeak && isWeaklySound(operation);
            allStrong = allStrong && isStronglySound(operation);
        }
        return (allWeak ? 1 : 0) + (allStrong ? 2 : 0) + (converges() ? 4 : 0);
    }

    public int choices(int user, int cell) {
        if (!isUser(user) || !isCell(cell)) {
            return -1;
        }
        int sum = 0;
        for (int source = 0; source <= NONE; source++) {
            if (source == NONE || isWriteAbout(source, cell)) {
                add(user, cell, false, source);
                if (converges()) {
                    sum += 1 << source;
                }
                held--;
            }
        }
        return sum;
    }

    private static boolean isUser(int user) {
        return user >= 0 && user < USERS;
    }

    private static boolean isCell(int cell) {
        return cell >= 0 && cell < CELLS;
    }

    private static boolean contains(int set, int operation) {
        return (set & (1 << operation)) != 0;
    }

    private boolean isHeld(int operation) {
        return operation >= 0 && operation < held;
    }

    private boolean isWriteAbout(int operation, int cell) {
        return isHeld(operation) && isWrite[operation] && cellOf[operation] == cell;
    }

    private int add(int user, int cell, boolean asWrite, int source) {
        int added = held;
        int set = 1 << added;
        for (int earlier = 0; earlier < added; earlier++) {
            if (userOf[earlier] == user || earlier == source) {
                set |= past[earlier];
            }
        }
        userOf[added] = user;
        cellOf[added] = cell;
        isWrite[added] = asWrite;
        sourceOf[added] = source;
        past[added] = set;
        held = added + 1;
        return added;
    }

    private boolean isWeaklySound(int operation) {
        return isWrite[operation] || hasRow(past[operation], 1 << operation);
    }

    private boolean isStronglySound(int operation) {
        int judged = 0;
        for (int other = 0; other <= operation; other++) {
            if (!isWrite[other] && userOf[other] == userOf[operation]) {
                judged |= 1 << other;
            }
        }
        return hasRow(past[operation], judged);
    }

    /**
     * Whether the set, which is the past of a held operation, has a row in which the judged reads
     * are right. Rows that agree in a state can go on in the same ways, so only states are kept.
     */
    private boolean hasRow(int set, int judged) {
        for (int state = 0; state < STATES; state++) {
            reached[state] = false;
        }
        reached[EMPTY_ROW] = true;
        int full = set << PLACED_SHIFT;
        // Laying an operation always leads to a greater state, so one pass upwards meets them all.
        for (int state = EMPTY_ROW; state < full; state++) {
            if (reached[state]) {
                extendRow(state, set, judged);
            }
        }
        for (int rest = 0; rest < STATES_PER_SET; rest++) {
            if (reached[full + rest]) {
                return true;
            }
        }
        return false;
    }

    private void extendRow(int state, int set, int judged) {
        int unplaced = set & ~(state >> PLACED_SHIFT);
        for (int next = 0; next < CAPACITY; next++) {
            int bit = 1 << next;
            // What is left of its past is the operation itself: all before it have been laid.
            if (contains(unplaced, next) && (past[next] & unplaced) == bit) {
                int shift = cellOf[next] * WRITE_BITS;
                int last = (state >> shift) & WRITE_MASK;
                int longer = state | (bit << PLACED_SHIFT);
                if (isWrite[next]) {
                    reached[(longer & ~(WRITE_MASK << shift)) | (next << shift)] = true;
                } else if (!contains(judged, next) || last == sourceOf[next]) {
                    reached[longer] = true;
                }
            }
        }
    }

    private boolean converges() {
        int writes = 0;
        for (int write = 0; write < held; write++) {
            if (isWrite[write]) {
                writes |= 1 << write;
            }
        }
        for (int write = 0; write < held; write++) {
            mustPrecede[write] = past[write] & writes & ~(1 << write);
        }
        return readsCanAgree() && canBeLaid(writes);
    }

    /**
     * Demands, for each read, that the other writes about its cell in its past precede the one
     * that it names. False if a read names none though there are such writes.
     */
    private boolean readsCanAgree() {
        for (int reader = 0; reader < held; reader++) {
            if (!isWrite[reader]) {
                int seen = writesInPast(reader);
                int source = sourceOf[reader];
                if (source != NONE) {
                    mustPrecede[source] |= seen & ~(1 << source);
                } else if (seen != 0) {
                    return false;
                }
            }
        }
        return true;
    }

    private int writesInPast(int reader) {
        int seen = 0;
        for (int write = 0; write < reader; write++) {
            if (isWrite[write] && cellOf[write] == cellOf[reader] && contains(past[reader], write)) {
                seen |= 1 << write;
            }
        }
        return seen;
    }

    private boolean canBeLaid(int writes) {
        int placed = 0;
        // Each round lays at least one write more, or no later round can lay any.
        for (int round = 0; round < CAPACITY; round++) {
            for (int write = 0; write < held; write++) {
                if (isWrite[write] && (mustPrecede[write] & ~placed) == 0) {
                    placed |= 1 << write;
                }
            }
        }
        return placed == writes;
    }
}
