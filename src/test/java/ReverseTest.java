/** Promise 8: reverse. */
public final class ReverseTest {
    private static final Checks checks = new Checks();
    private static final Blocks blocks = new Blocks(checks, "reverse");

    public static void main(String[] args) {
        checks.holds("8: The order of the entries of the block is turned round", ReverseTest::turnsRound);
        checks.holds("8: the first becomes the last", ReverseTest::everyBlock);
        checks.holds("8: an empty block, and a block of one entry", ReverseTest::shortBlocks);
        checks.holds("8: Every entry keeps its kind, amount and state", ReverseTest::twiceIsAsBefore);
        checks.holds("8: -1 if the block is bad", blocks::badAreRefused);
        checks.holds("8: -1 if the block is bad (and not if it is good)", blocks::goodAreTaken);
        checks.finish();
    }

    private static void is(int from, int to, int want, String entries) {
        Tried tried = Tried.of(checks, 20, 5, Entries.FIVE);
        tried.due(want, "reverse", from, to);
        tried.dueEntries(entries);
    }

    private static void turnsRound() {
        is(0, 5, 5, "a5v s4 t3v l2 a-1");
        is(0, 4, 4, "s4 t3v l2 a-1 a5v");
        is(1, 5, 4, "a-1 a5v s4 t3v l2");
        is(1, 4, 3, "a-1 s4 t3v l2 a5v");
        is(0, 2, 2, "l2 a-1 t3v s4 a5v");
        is(1, 3, 2, "a-1 t3v l2 s4 a5v");
        is(3, 5, 2, "a-1 l2 t3v a5v s4");
    }

    private static void everyBlock() {
        for (int size : new int[] {0, 1, 2, 3, 6, 39, 40}) {
            for (int from = 0; from <= size; from++) {
                for (int to = from; to <= size; to++) {
                    Tried tried = Tried.of(checks, 20, size, Entries.many(size));
                    tried.due(to - from, "reverse", from, to);
                    tried.sameList();
                }
            }
        }
    }

    private static void shortBlocks() {
        for (int at = 0; at <= 5; at++) {
            is(at, at, 0, Entries.FIVE);
        }
        for (int at = 0; at < 5; at++) {
            is(at, at + 1, 1, Entries.FIVE);
        }
        Tried empty = new Tried(checks, 20, 2);
        empty.due(0, "reverse", 0, 0);
        empty.dueEntries("");
    }

    private static void twiceIsAsBefore() {
        Tried tried = Tried.of(checks, 20, 5, Entries.FIVE);
        tried.due(5, "reverse", 0, 5);
        tried.due(3, "reverse", 1, 4);
        tried.dueEntries("a5v l2 t3v s4 a-1");
        tried.due(3, "reverse", 1, 4);
        tried.due(5, "reverse", 0, 5);
        tried.dueEntries(Entries.FIVE);
    }
}
