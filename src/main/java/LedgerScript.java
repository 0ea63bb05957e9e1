/** A list of entries for one account whose balance always lies in 0 .. cap. */
public final class LedgerScript {
    public static final int ADD = 0;
    public static final int LIFT = 1;
    public static final int TRIM = 2;
    public static final int SET = 3;

    private static final int LEAST_CAP = 4;
    private static final int MOST_CAP = 60;
    private static final int LEAST_ROOM = 2;
    private static final int MOST_ROOM = 40;
    private static final int MOST_TIMES = 200;

    // Amounts and sums can be negative, so their refusals lie below everything that they can be.
    private static final int NO_AMOUNT = -1000;
    private static final int NO_NET = -100000;

    private final int[] kinds = new int[MOST_ROOM];
    private final int[] amounts = new int[MOST_ROOM];
    private final boolean[] voids = new boolean[MOST_ROOM];
    private final int greatest;
    private final int room;
    private int count;

    public LedgerScript(int cap, int room) {
        this.greatest = clamp(cap, LEAST_CAP, MOST_CAP);
        this.room = clamp(room, LEAST_ROOM, MOST_ROOM);
        this.count = 0;
    }

    public int cap() {
        return greatest;
    }

    public int size() {
        return count;
    }

    public int insert(int pos, int kind, int amount) {
        if (count == room) {
            return -1;
        }
        if (pos < 0 || pos > count) {
            return -2;
        }
        if (kind < ADD || kind > SET) {
            return -3;
        }
        if (!isAmountOf(kind, amount)) {
            return -4;
        }
        openGap(pos, 1);
        kinds[pos] = kind;
        amounts[pos] = amount;
        voids[pos] = false;
        return count;
    }

    public int remove(int pos) {
        if (!isPosition(pos)) {
            return -1;
        }
        int kind = kinds[pos];
        for (int i = pos + 1; i < count; i++) {
            copyEntry(i, i - 1);
        }
        count--;
        return kind;
    }

    public int move(int from, int to, int dest) {
        if (!isGoodBlock(from, to)) {
            return -1;
        }
        int length = to - from;
        if (dest < 0 || dest > count - length) {
            return -2;
        }
        if (dest < from) {
            swapNeighbours(dest, from, to);
        } else {
            swapNeighbours(from, to, dest + length);
        }
        return length;
    }

    public int copy(int from, int to, int dest) {
        if (!isGoodBlock(from, to)) {
            return -1;
        }
        if (dest < 0 || dest > count) {
            return -2;
        }
        int length = to - from;
        if (count + length > room) {
            return -3;
        }
        openGap(dest, length);
        for (int i = 0; i < length; i++) {
            int source = from + i;
            // The gap may have opened inside the block: what stood at dest or after it is now further up.
            if (source >= dest) {
                source += length;
            }
            copyEntry(source, dest + i);
        }
        return count;
    }

    public int reverse(int from, int to) {
        if (!isGoodBlock(from, to)) {
            return -1;
        }
        turnRound(from, to);
        return to - from;
    }

    public int setVoid(int from, int to, int flag) {
        if (!isGoodBlock(from, to)) {
            return -1;
        }
        boolean wanted = flag != 0;
        int changed = 0;
        for (int i = from; i < to; i++) {
            if (voids[i] != wanted) {
                voids[i] = wanted;
                changed++;
            }
        }
        return changed;
    }

    public int kindAt(int pos) {
        return isPosition(pos) ? kinds[pos] : -1;
    }

    public int amountAt(int pos) {
        return isPosition(pos) ? amounts[pos] : NO_AMOUNT;
    }

    public int voidAt(int pos) {
        if (!isPosition(pos)) {
            return -1;
        }
        return voids[pos] ? 1 : 0;
    }

    public int run(int from, int to, int x) {
        if (!isGoodBlock(from, to)) {
            return -1;
        }
        if (!isBalance(x)) {
            return -2;
        }
        return closing(from, to, x);
    }

    public int repeat(int from, int to, int x, int times) {
        if (!isGoodBlock(from, to)) {
            return -1;
        }
        if (!isBalance(x)) {
            return -2;
        }
        if (times < 0 || times > MOST_TIMES) {
            return -3;
        }
        return closingAfter(from, to, x, times);
    }

    public int rest(int from, int to, int x) {
        if (!isGoodBlock(from, to)) {
            return -1;
        }
        if (!isBalance(x)) {
            return -2;
        }
        return closingAfter(from, to, x, greatest + 1);
    }

    public int leastOpening(int from, int to, int y) {
        if (!isGoodBlock(from, to)) {
            return -1;
        }
        if (!isBalance(y)) {
            return -2;
        }
        for (int x = 0; x <= greatest; x++) {
            if (closing(from, to, x) >= y) {
                return x;
            }
        }
        return -3;
    }

    public int openings(int from, int to, int y) {
        if (!isGoodBlock(from, to)) {
            return -1;
        }
        if (!isBalance(y)) {
            return -2;
        }
        int found = 0;
        for (int x = 0; x <= greatest; x++) {
            if (closing(from, to, x) == y) {
                found++;
            }
        }
        return found;
    }

    public int liveCount(int from, int to) {
        if (!isGoodBlock(from, to)) {
            return -1;
        }
        int live = 0;
        for (int i = from; i < to; i++) {
            if (!voids[i]) {
                live++;
            }
        }
        return live;
    }

    public int net(int from, int to) {
        if (!isGoodBlock(from, to)) {
            return NO_NET;
        }
        int sum = 0;
        for (int i = from; i < to; i++) {
            if (!voids[i] && kinds[i] == ADD) {
                sum += amounts[i];
            }
        }
        return sum;
    }

    private static int clamp(int value, int least, int most) {
        if (value < least) {
            return least;
        }
        return value > most ? most : value;
    }

    private boolean isPosition(int pos) {
        return pos >= 0 && pos < count;
    }

    private boolean isGoodBlock(int from, int to) {
        return 0 <= from && from <= to && to <= count;
    }

    private boolean isBalance(int x) {
        return x >= 0 && x <= greatest;
    }

    private boolean isAmountOf(int kind, int amount) {
        int least = kind == ADD ? -greatest : 0;
        return amount >= least && amount <= greatest;
    }

    private void copyEntry(int source, int target) {
        kinds[target] = kinds[source];
        amounts[target] = amounts[source];
        voids[target] = voids[source];
    }

    private void swapEntries(int a, int b) {
        int kind = kinds[a];
        int amount = amounts[a];
        boolean isVoid = voids[a];
        copyEntry(b, a);
        kinds[b] = kind;
        amounts[b] = amount;
        voids[b] = isVoid;
    }

    /** Leaves the gap's own entries as they were: the caller fills them. */
    private void openGap(int pos, int length) {
        // From the top down, so that no entry is overwritten before it has moved.
        for (int i = count - 1; i >= pos; i--) {
            copyEntry(i, i + length);
        }
        count += length;
    }

    private void turnRound(int from, int to) {
        int half = (to - from) / 2;
        for (int i = 0; i < half; i++) {
            swapEntries(from + i, to - 1 - i);
        }
    }

    /** Lets the blocks (from, middle) and (middle, to) change places, each in its order. */
    private void swapNeighbours(int from, int middle, int to) {
        // Turning each part round and then the whole needs no second list to hold a part meanwhile.
        turnRound(from, middle);
        turnRound(middle, to);
        turnRound(from, to);
    }

    private int closing(int from, int to, int x) {
        int balance = x;
        for (int i = from; i < to; i++) {
            balance = applied(i, balance);
        }
        return balance;
    }

    private int closingAfter(int from, int to, int x, int times) {
        int balance = x;
        for (int i = 0; i < times; i++) {
            balance = closing(from, to, balance);
        }
        return balance;
    }

    private int applied(int pos, int x) {
        if (voids[pos]) {
            return x;
        }
        int amount = amounts[pos];
        switch (kinds[pos]) {
            case ADD:
                return clamp(x + amount, 0, greatest);
            case LIFT:
                return x > amount ? x : amount;
            case TRIM:
                return x < amount ? x : amount;
            default:
                return amount;
        }
    }
}
