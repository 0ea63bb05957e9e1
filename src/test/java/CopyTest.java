/** Promise 7: copy. */
public final class CopyTest {
    private static final Checks checks = new Checks();
    private static final Blocks blocks = new Blocks(checks, "copy", 0);

    public static void main(String[] args) {
        checks.holds("7: put in so that its first entry stands at position dest", CopyTest::putsIn);
        checks.holds("7: dest may lie inside the block", CopyTest::destInsideTheBlock);
        checks.holds("7: the entries that stood at dest and after it move up by to - from", CopyTest::everyCopy);
        checks.holds("7: as it stands before the call (kinds, amounts and states)", CopyTest::copiesAreApart);
        checks.holds("7: -1 if the block is bad", blocks::badAreRefused);
        checks.holds("7: -1 if the block is bad (and not if it is good)", blocks::goodAreTaken);
        checks.holds("7: -2 if dest is not in 0 .. size()", CopyTest::badDestinations);
        checks.holds("7: -3 if size() + (to - from) is greater than room", CopyTest::tooMuch);
        checks.holds("7: Refusals, in this order: -1, then -2", CopyTest::badBlockComesBeforeBadDest);
        checks.holds("7: Refusals, in this order: -1, then -3", CopyTest::badBlockComesBeforeTooMuch);
        checks.holds("7: Refusals, in this order: -2, then -3", CopyTest::badDestComesBeforeTooMuch);
        checks.holds("7: Otherwise answers the new size (an empty block)", CopyTest::emptyBlocks);
        checks.finish();
    }

    private static void is(int from, int to, int dest, int want, String entries) {
        Tried tried = Tried.of(checks, 20, 10, Entries.FIVE);
        tried.due(want, "copy", from, to, dest);
        tried.dueEntries(entries);
    }

    private static void putsIn() {
        is(0, 2, 0, 7, "a-1 l2 a-1 l2 t3v s4 a5v");
        is(1, 4, 0, 8, "l2 t3v s4 a-1 l2 t3v s4 a5v");
        is(1, 4, 1, 8, "a-1 l2 t3v s4 l2 t3v s4 a5v");
        is(1, 4, 4, 8, "a-1 l2 t3v s4 l2 t3v s4 a5v");
        is(1, 4, 5, 8, "a-1 l2 t3v s4 a5v l2 t3v s4");
        is(4, 5, 0, 6, "a5v a-1 l2 t3v s4 a5v");
        is(0, 5, 0, 10, "a-1 l2 t3v s4 a5v a-1 l2 t3v s4 a5v");
        is(0, 5, 5, 10, "a-1 l2 t3v s4 a5v a-1 l2 t3v s4 a5v");
    }

    private static void destInsideTheBlock() {
        is(1, 4, 2, 8, "a-1 l2 l2 t3v s4 t3v s4 a5v");
        is(1, 4, 3, 8, "a-1 l2 t3v l2 t3v s4 s4 a5v");
        is(0, 2, 1, 7, "a-1 a-1 l2 l2 t3v s4 a5v");
        is(0, 5, 1, 10, "a-1 a-1 l2 t3v s4 a5v l2 t3v s4 a5v");
        is(0, 5, 2, 10, "a-1 l2 a-1 l2 t3v s4 a5v t3v s4 a5v");
        is(0, 5, 4, 10, "a-1 l2 t3v s4 a-1 l2 t3v s4 a5v a5v");
        for (int dest = 0; dest <= 20; dest++) {
            Tried fullest = Tried.of(checks, 20, 40, Entries.many(20));
            fullest.due(40, "copy", 0, 20, dest);
            fullest.sameList();
        }
    }

    private static void everyCopy() {
        for (int size = 0; size <= 7; size++) {
            for (int from = 0; from <= size; from++) {
                for (int to = from; to <= size; to++) {
                    for (int dest = 0; dest <= size; dest++) {
                        // Room for this copy and for no entry more.
                        int room = size + to - from;
                        Tried tried = Tried.of(checks, 20, room, Entries.many(size));
                        tried.due(room, "copy", from, to, dest);
                        tried.sameList();
                    }
                }
            }
        }
    }

    private static void copiesAreApart() {
        Tried tried = Tried.of(checks, 20, 10, "a1 l2v");
        tried.due(4, "copy", 0, 2, 2);
        tried.due(1, "setVoid", 0, 1, 1);
        tried.dueEntries("a1v l2v a1 l2v");
        tried.due(1, "setVoid", 3, 4, 0);
        tried.dueEntries("a1v l2v a1 l2");
        tried.due(LedgerScript.ADD, "remove", 0);
        tried.dueEntries("l2v a1 l2");
    }

    private static void badDestinations() {
        for (int from = 0; from <= 5; from++) {
            for (int to = from; to <= 5; to++) {
                for (int dest : Edges.outside(0, 5)) {
                    is(from, to, dest, -2, Entries.FIVE);
                }
                for (int dest : Edges.inside(0, 5)) {
                    Tried tried = Tried.of(checks, 20, 10, Entries.FIVE);
                    tried.due(5 + to - from, "copy", from, to, dest);
                    tried.sameList();
                }
            }
        }
    }

    private static void tooMuch() {
        for (int[] list : new int[][] {{1, 2}, {2, 2}, {2, 3}, {5, 7}, {20, 39}, {20, 40}, {21, 40}, {39, 40}, {40, 40}}) {
            int size = list[0];
            int room = list[1];
            for (int length = 0; length <= size; length++) {
                for (int dest : new int[] {0, size / 2, size}) {
                    Tried tried = Tried.of(checks, 20, room, Entries.many(size));
                    tried.due(length > room - size ? -3 : size + length, "copy", size - length, size, dest);
                    tried.sameList();
                }
            }
        }
        Tried tight = Tried.of(checks, 20, 7, Entries.FIVE);
        tight.due(-3, "copy", 0, 3, 0);
        tight.dueEntries(Entries.FIVE);
        tight.due(7, "copy", 3, 5, 4);
        tight.dueEntries("a-1 l2 t3v s4 s4 a5v a5v");
        tight.due(-3, "copy", 0, 1, 0);
        tight.due(7, "copy", 7, 7, 0);
    }

    private static void badBlockComesBeforeBadDest() {
        for (int dest : new int[] {Edges.LOW, -1, 6, Edges.HIGH}) {
            is(2, 1, dest, -1, Entries.FIVE);
            is(-1, 2, dest, -1, Entries.FIVE);
            is(0, 6, dest, -1, Entries.FIVE);
            is(6, 6, dest, -1, Entries.FIVE);
            is(Edges.LOW, Edges.HIGH, dest, -1, Entries.FIVE);
            is(Edges.HIGH, Edges.LOW, dest, -1, Entries.FIVE);
        }
    }

    private static void badBlockComesBeforeTooMuch() {
        Tried full = Tried.of(checks, 20, 5, Entries.FIVE);
        for (int[] block : new int[][] {{0, 6}, {-1, 5}, {-1, 1}, {5, 6}, {0, Edges.HIGH}, {Edges.LOW, 0}, {1, Edges.HIGH}}) {
            full.due(-1, "copy", block[0], block[1], 0);
            full.due(-1, "copy", block[0], block[1], 5);
            // Here all three reasons stand at once.
            full.due(-1, "copy", block[0], block[1], 6);
        }
        full.dueEntries(Entries.FIVE);
    }

    private static void badDestComesBeforeTooMuch() {
        Tried full = Tried.of(checks, 20, 5, Entries.FIVE);
        for (int dest : Edges.outside(0, 5)) {
            full.due(-2, "copy", 0, 1, dest);
            full.due(-2, "copy", 0, 5, dest);
        }
        full.due(-3, "copy", 0, 1, 0);
        full.due(-3, "copy", 0, 1, 5);
        full.dueEntries(Entries.FIVE);
    }

    private static void emptyBlocks() {
        for (int room : new int[] {5, 6, 40}) {
            for (int at = 0; at <= 5; at++) {
                Tried tried = Tried.of(checks, 20, room, Entries.FIVE);
                for (int dest = 0; dest <= 5; dest++) {
                    tried.due(5, "copy", at, at, dest);
                }
                tried.due(-2, "copy", at, at, -1);
                tried.due(-2, "copy", at, at, 6);
                tried.dueEntries(Entries.FIVE);
            }
        }
    }
}
