/** Promises 13 to 15: run, repeat, rest. */
public final class RunTest {
    private static final Checks checks = new Checks();
    private static final Blocks runBlocks = new Blocks(checks, "run", 0);
    private static final Blocks repeatBlocks = new Blocks(checks, "repeat", 0, 1);
    private static final Blocks restBlocks = new Blocks(checks, "rest", 0);

    public static void main(String[] args) {
        checks.holds("13: The closing balance of running the block on x", RunTest::runsInOrder);
        checks.holds("13: -1 if the block is bad", runBlocks::badAreRefused);
        checks.holds("13: -1 if the block is bad (and not if it is good)", runBlocks::goodAreTaken);
        checks.holds("13: -2 if x is not in 0 .. cap", () -> Balances.badAreRefused(checks, "run"));
        checks.holds("13: Refusals, in this order", () -> Balances.badBlockComesFirst(checks, "run"));
        checks.holds("14: times times in a row, each time on the closing balance before", RunTest::repeats);
        checks.holds("14: answers the last closing balance (x for times 0)", RunTest::repeatsNotAtAll);
        checks.holds("14: -1 if the block is bad", repeatBlocks::badAreRefused);
        checks.holds("14: -1 if the block is bad (and not if it is good)", repeatBlocks::goodAreTaken);
        checks.holds("14: -2 if x is not in 0 .. cap", () -> Balances.badAreRefused(checks, "repeat", 3));
        checks.holds("14: -2 if x is not in 0 .. cap (times 0)", () -> Balances.badAreRefused(checks, "repeat", 0));
        checks.holds("14: -3 if times is not in 0 .. 200", RunTest::badTimes);
        checks.holds("14: Refusals, in this order: -1, then -2", () -> Balances.badBlockComesFirst(checks, "repeat", 3));
        checks.holds("14: Refusals, in this order: -1, then -3", RunTest::badBlockComesBeforeBadTimes);
        checks.holds("14: Refusals, in this order: -2, then -3", RunTest::badBalanceComesBeforeBadTimes);
        checks.holds("15: the closing balance of running the block cap + 1 times in a row", RunTest::comesToRest);
        checks.holds("15: come to rest", RunTest::restsStay);
        checks.holds("15: -1 if the block is bad", restBlocks::badAreRefused);
        checks.holds("15: -1 if the block is bad (and not if it is good)", restBlocks::goodAreTaken);
        checks.holds("15: -2 if x is not in 0 .. cap", () -> Balances.badAreRefused(checks, "rest"));
        checks.holds("15: Refusals, in this order", () -> Balances.badBlockComesFirst(checks, "rest"));
        checks.finish();
    }

    private static void runsInOrder() {
        Tried tried = Tried.of(checks, 20, 10, "a15 a-12 s9v l5 t6");
        tried.due(8, "run", 0, 2, 10);
        tried.due(6, "run", 0, 5, 10);
        tried.due(5, "run", 0, 4, 0);
        tried.due(8, "run", 1, 4, 20);
        tried.due(20, "run", 2, 3, 20);
        tried.due(15, "run", 0, 1, 0);
        tried.due(20, "run", 0, 1, 5);
        tried.due(20, "run", 0, 1, 6);
        tried.due(6, "run", 4, 5, 7);
        tried.due(3, "run", 4, 5, 3);
    }

    private static void repeats() {
        for (int cap : new int[] {4, 5, 59, 60}) {
            Tried up = Tried.of(checks, cap, 10, "a2 a-1v a-1");
            for (int times = 0; times <= 200; times++) {
                // The last entry takes one off again, so that no run closes at cap itself.
                up.due(Math.min(times, cap - 1), "repeat", 0, 3, 0, times);
            }
            Tried down = Tried.of(checks, cap, 10, "a-1");
            for (int times = 0; times <= 200; times++) {
                down.due(Math.max(cap - times, 0), "repeat", 0, 1, cap, times);
            }
        }
        Tried twice = Tried.of(checks, 20, 10, "a-8 a12 a-4");
        twice.due(12, "repeat", 0, 2, 1, 1);
        twice.due(16, "repeat", 0, 2, 1, 2);
        twice.due(20, "repeat", 0, 2, 1, 3);
        twice.due(20, "repeat", 0, 2, 1, 4);
    }

    private static void repeatsNotAtAll() {
        for (String entries : new String[] {"", "s7", "a20", "a-20", "t0", "l20", "s7v"}) {
            Tried tried = Tried.of(checks, 20, 10, entries);
            for (int x = 0; x <= 20; x++) {
                tried.due(x, "repeat", 0, tried.size(), x, 0);
            }
        }
    }

    private static void badTimes() {
        for (String entries : new String[] {"", "a1", Entries.FIVE}) {
            Tried tried = Tried.of(checks, 60, 10, entries);
            for (int times : Edges.outside(0, 200)) {
                tried.due(-3, "repeat", 0, tried.size(), 5, times);
            }
            for (int times : Edges.inside(0, 200)) {
                checks.dueTrue(times + " times are taken", tried.same("repeat", 0, tried.size(), 5, times) >= 0);
            }
            tried.sameList();
        }
    }

    private static void badBlockComesBeforeBadTimes() {
        Tried tried = Tried.of(checks, 20, 10, Entries.FIVE);
        for (int times : Edges.outside(0, 200)) {
            tried.due(-1, "repeat", 2, 1, 0, times);
            tried.due(-1, "repeat", 0, 6, 20, times);
            tried.due(-1, "repeat", -1, 5, 3, times);
            // Here all three reasons stand at once.
            tried.due(-1, "repeat", 6, 6, -1, times);
            tried.due(-1, "repeat", Edges.HIGH, Edges.LOW, 21, times);
        }
        tried.dueEntries(Entries.FIVE);
    }

    private static void badBalanceComesBeforeBadTimes() {
        Tried tried = Tried.of(checks, 20, 10, Entries.FIVE);
        for (int times : new int[] {Edges.LOW, -1, 201, Edges.HIGH}) {
            for (int x : Edges.outside(0, 20)) {
                tried.due(-2, "repeat", 0, 5, x, times);
                tried.due(-2, "repeat", 3, 3, x, times);
            }
            tried.due(-3, "repeat", 0, 5, 0, times);
            tried.due(-3, "repeat", 0, 5, 20, times);
        }
        tried.dueEntries(Entries.FIVE);
    }

    private static void comesToRest() {
        for (int cap = 4; cap <= 60; cap++) {
            Tried tried = Tried.of(checks, cap, 10, "a1 a-1 a-1 a1v");
            tried.due(cap, "rest", 0, 1, 0);
            tried.due(cap, "rest", 0, 1, 1);
            tried.due(cap, "rest", 0, 1, cap);
            tried.due(0, "rest", 1, 2, cap);
            tried.due(0, "rest", 1, 2, cap - 1);
            tried.due(0, "rest", 0, 4, cap);
            tried.due(3, "rest", 3, 4, 3);
            tried.due(3, "rest", 0, 0, 3);
            tried.due(3, "rest", 4, 4, 3);
            tried.due(cap - 1, "rest", 0, 2, cap);
        }
        Tried between = Tried.of(checks, 20, 10, "a-8 a12 a-4");
        between.due(8, "rest", 0, 3, 1);
        between.due(8, "rest", 0, 3, 8);
        between.due(10, "rest", 0, 3, 10);
        between.due(16, "rest", 0, 3, 16);
        between.due(16, "rest", 0, 3, 20);
        Tried fullest = Tried.of(checks, 60, 40, "a60 a-60v ".repeat(19) + "t59 a-1");
        fullest.due(58, "rest", 0, 40, 0);
        fullest.due(0, "rest", 39, 40, 60);
    }

    private static void restsStay() {
        Tried tried = Tried.of(checks, 20, 10, "a3 t17 a-2 l4 a1v");
        for (int from = 0; from <= 5; from++) {
            for (int x = 0; x <= 20; x++) {
                int rest = tried.same("rest", from, 5, x);
                tried.due(rest, "repeat", from, 5, x, 21);
                tried.due(rest, "run", from, 5, rest);
            }
        }
    }
}
