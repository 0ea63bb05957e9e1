/** Promises 18 and 19: liveCount, net. */
public final class CountTest {
    private static final Checks checks = new Checks();
    private static final Blocks liveBlocks = new Blocks(checks, "liveCount");
    private static final Blocks netBlocks = new Blocks(checks, "net");

    public static void main(String[] args) {
        checks.holds("18: How many entries of the block are live", CountTest::countsLive);
        checks.holds("18: none, one, all", CountTest::fromNoneToAll);
        checks.holds("18: -1 if the block is bad", liveBlocks::badAreRefused);
        checks.holds("18: -1 if the block is bad (and not if it is good)", liveBlocks::goodAreTaken);
        checks.holds("19: The sum of the amounts of the live entries of kind ADD in the block", CountTest::sums);
        checks.holds("19: (0 if there are none)", CountTest::sumOfNone);
        checks.holds("19: the least and the greatest sums", CountTest::greatSums);
        checks.holds("19: -100000 if the block is bad", netBlocks::badAreRefused);
        checks.holds("19: -100000 if the block is bad (and not if it is good)", netBlocks::goodAreTaken);
        checks.finish();
    }

    private static void countsLive() {
        Tried tried = Tried.of(checks, 20, 10, "a1 l2v t3 s4v a5");
        tried.due(3, "liveCount", 0, 5);
        tried.due(1, "liveCount", 1, 4);
        tried.due(0, "liveCount", 1, 2);
        tried.due(1, "liveCount", 0, 1);
        tried.due(1, "liveCount", 4, 5);
        for (int at = 0; at <= 5; at++) {
            tried.due(0, "liveCount", at, at);
        }
    }

    private static void fromNoneToAll() {
        for (int size : new int[] {0, 1, 2, 39, 40}) {
            Tried tried = Tried.of(checks, 20, 40, "l0 ".repeat(size));
            tried.due(size, "liveCount", 0, size);
            for (int voids = 1; voids <= size; voids++) {
                tried.due(1, "setVoid", voids - 1, voids, 1);
                tried.due(size - voids, "liveCount", 0, size);
                tried.due(0, "liveCount", 0, voids);
            }
        }
    }

    private static void sums() {
        Tried tried = Tried.of(checks, 20, 10, "a-9 l2 t3 s4 a5v a4");
        tried.due(-5, "net", 0, 6);
        tried.due(-9, "net", 0, 1);
        tried.due(-9, "net", 0, 5);
        tried.due(4, "net", 1, 6);
        tried.due(4, "net", 5, 6);
        tried.due(1, "setVoid", 4, 5, 0);
        tried.due(0, "net", 0, 6);
        tried.due(5, "net", 4, 5);
        tried.due(1, "setVoid", 0, 1, 1);
        tried.due(9, "net", 0, 6);
    }

    private static void sumOfNone() {
        Tried tried = Tried.of(checks, 20, 10, "l2 t3 s4 a5v a-6v l7v t8v s9v");
        for (int from = 0; from <= 8; from++) {
            for (int to = from; to <= 8; to++) {
                tried.due(0, "net", from, to);
            }
        }
        new Tried(checks, 20, 10).due(0, "net", 0, 0);
    }

    /** Beyond cap, below 0, and beyond -1000, which is a refusal elsewhere. */
    private static void greatSums() {
        for (int size : new int[] {1, 2, 16, 17, 39, 40}) {
            Tried most = Tried.of(checks, 60, 40, "a60 ".repeat(size));
            most.due(60 * size, "net", 0, size);
            Tried least = Tried.of(checks, 60, 40, "a-60 ".repeat(size));
            least.due(-60 * size, "net", 0, size);
        }
        Tried refusalElsewhere = Tried.of(checks, 60, 40, "a-50 ".repeat(20));
        refusalElsewhere.due(-1000, "net", 0, 20);
        Tried minusOne = Tried.of(checks, 60, 40, "a-1");
        minusOne.due(-1, "net", 0, 1);
    }
}
