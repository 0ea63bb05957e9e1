/** Promise 9: setVoid. */
public final class SetVoidTest {
    private static final Checks checks = new Checks();
    private static final Blocks blocks = new Blocks(checks, "setVoid", 1);
    private static final Blocks liveBlocks = new Blocks(checks, "setVoid", 0);

    public static void main(String[] args) {
        checks.holds("9: Every entry of the block becomes void if flag is not 0", SetVoidTest::marksVoid);
        checks.holds("9: flag is not 0, however large or small", SetVoidTest::everyOtherFlag);
        checks.holds("9: and live if flag is 0", SetVoidTest::marksLive);
        checks.holds("9: how many entries of the block had the other state", SetVoidTest::countsTheOthers);
        checks.holds("9: an empty block", SetVoidTest::emptyBlocks);
        checks.holds("9: -1 if the block is bad (flag 1)", blocks::badAreRefused);
        checks.holds("9: -1 if the block is bad (flag 0)", liveBlocks::badAreRefused);
        checks.holds("9: -1 if the block is bad (and not if it is good, flag 1)", blocks::goodAreTaken);
        checks.holds("9: -1 if the block is bad (and not if it is good, flag 0)", liveBlocks::goodAreTaken);
        checks.finish();
    }

    private static void is(int from, int to, int flag, int want, String entries) {
        Tried tried = Tried.of(checks, 20, 5, Entries.FIVE);
        tried.due(want, "setVoid", from, to, flag);
        tried.dueEntries(entries);
    }

    private static void marksVoid() {
        is(0, 5, 1, 3, "a-1v l2v t3v s4v a5v");
        is(0, 1, 1, 1, "a-1v l2 t3v s4 a5v");
        is(1, 3, 1, 1, "a-1 l2v t3v s4 a5v");
        is(3, 5, 1, 1, "a-1 l2 t3v s4v a5v");
        is(4, 5, 1, 0, Entries.FIVE);
    }

    private static void everyOtherFlag() {
        for (int flag : new int[] {Edges.LOW, Edges.LOW + 1, -65536, -256, -2, -1, 1, 2, 256, 65536, 1 << 30, Edges.HIGH - 1,
            Edges.HIGH}) {
            is(0, 5, flag, 3, "a-1v l2v t3v s4v a5v");
            is(0, 1, flag, 1, "a-1v l2 t3v s4 a5v");
        }
    }

    private static void marksLive() {
        is(0, 5, 0, 2, "a-1 l2 t3 s4 a5");
        is(1, 3, 0, 1, "a-1 l2 t3 s4 a5v");
        is(4, 5, 0, 1, "a-1 l2 t3v s4 a5");
        is(0, 2, 0, 0, Entries.FIVE);
    }

    private static void countsTheOthers() {
        for (int size : new int[] {1, 2, 39, 40}) {
            Tried tried = Tried.of(checks, 20, 40, "s1 ".repeat(size));
            tried.due(0, "setVoid", 0, size, 0);
            tried.due(1, "setVoid", size - 1, size, 7);
            tried.due(size - 1, "setVoid", 0, size, -7);
            tried.due(0, "setVoid", 0, size, 1);
            tried.due(1, "setVoid", 0, 1, 0);
            tried.due(size - 1, "setVoid", 0, size, 0);
            tried.due(size, "setVoid", 0, size, 1);
            tried.due(0, "liveCount", 0, size);
        }
    }

    private static void emptyBlocks() {
        for (int at = 0; at <= 5; at++) {
            is(at, at, 0, 0, Entries.FIVE);
            is(at, at, 1, 0, Entries.FIVE);
        }
        Tried empty = new Tried(checks, 20, 2);
        empty.due(0, "setVoid", 0, 0, 1);
        empty.due(1, "insert", 0, 0, 0);
        empty.dueEntries("a0");
    }
}
