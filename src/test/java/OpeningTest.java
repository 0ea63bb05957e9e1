/** Promises 16 and 17: leastOpening, openings. */
public final class OpeningTest {
    private static final Checks checks = new Checks();
    private static final Blocks leastBlocks = new Blocks(checks, "leastOpening", 0);
    private static final Blocks openingsBlocks = new Blocks(checks, "openings", 0);

    public static void main(String[] args) {
        checks.holds("16: The least opening balance x in 0 .. cap", OpeningTest::leastOpenings);
        checks.holds("16: closes at y or above", OpeningTest::aboveIsEnough);
        checks.holds("16: an empty block", OpeningTest::leastOpeningsOfEmptyBlocks);
        checks.holds("16: -1 if the block is bad", leastBlocks::badAreRefused);
        checks.holds("16: -1 if the block is bad (and not if it is good)", leastBlocks::goodAreTaken);
        checks.holds("16: -2 if y is not in 0 .. cap", () -> Balances.badAreRefused(checks, "leastOpening"));
        checks.holds("16: -3 if there is no such x", OpeningTest::noSuchOpening);
        checks.holds("16: Refusals, in this order: -1, then -2", () -> Balances.badBlockComesFirst(checks, "leastOpening"));
        checks.holds("16: Refusals, in this order: -1 or -2, then -3", OpeningTest::noSuchOpeningComesLast);
        checks.holds("17: How many opening balances x in 0 .. cap there are", OpeningTest::counts);
        checks.holds("17: closes at exactly y: none, one, all", OpeningTest::noneOneAndAll);
        checks.holds("17: an empty block", OpeningTest::openingsOfEmptyBlocks);
        checks.holds("17: -1 if the block is bad", openingsBlocks::badAreRefused);
        checks.holds("17: -1 if the block is bad (and not if it is good)", openingsBlocks::goodAreTaken);
        checks.holds("17: -2 if y is not in 0 .. cap", () -> Balances.badAreRefused(checks, "openings"));
        checks.holds("17: Refusals, in this order", () -> Balances.badBlockComesFirst(checks, "openings"));
        checks.finish();
    }

    private static void leastOpenings() {
        Tried tried = Tried.of(checks, 20, 10, "a-5 l3 t12 s8v");
        tried.due(0, "leastOpening", 0, 4, 0);
        tried.due(0, "leastOpening", 0, 4, 3);
        tried.due(9, "leastOpening", 0, 4, 4);
        tried.due(10, "leastOpening", 0, 4, 5);
        tried.due(17, "leastOpening", 0, 4, 12);
        tried.due(-3, "leastOpening", 0, 4, 13);
        for (int cap : new int[] {4, 5, 59, 60}) {
            Tried ends = Tried.of(checks, cap, 10, "a-1 a1v");
            // The greatest opening is the only one that closes at cap - 1.
            ends.due(cap, "leastOpening", 0, 2, cap - 1);
            ends.due(cap - 1, "leastOpening", 0, 2, cap - 2);
            ends.due(2, "leastOpening", 0, 2, 1);
            ends.due(0, "leastOpening", 0, 2, 0);
            ends.due(-3, "leastOpening", 0, 2, cap);
        }
    }

    private static void aboveIsEnough() {
        Tried tried = Tried.of(checks, 20, 10, "s8 l9v");
        for (int y = 0; y <= 8; y++) {
            tried.due(0, "leastOpening", 0, 2, y);
        }
        for (int y = 9; y <= 20; y++) {
            tried.due(-3, "leastOpening", 0, 2, y);
        }
        Tried lifted = Tried.of(checks, 20, 10, "l5");
        lifted.due(0, "leastOpening", 0, 1, 4);
        lifted.due(0, "leastOpening", 0, 1, 5);
        lifted.due(6, "leastOpening", 0, 1, 6);
        lifted.due(20, "leastOpening", 0, 1, 20);
    }

    private static void leastOpeningsOfEmptyBlocks() {
        for (String entries : new String[] {"", "s8", "s8 a-20 t0"}) {
            Tried tried = Tried.of(checks, 20, 3, entries);
            for (int at = 0; at <= tried.size(); at++) {
                for (int y = 0; y <= 20; y++) {
                    tried.due(y, "leastOpening", at, at, y);
                }
            }
        }
    }

    private static void noSuchOpening() {
        for (int cap : new int[] {4, 20, 60}) {
            for (int most = 0; most < cap; most++) {
                Tried trimmed = Tried.of(checks, cap, 2, "t" + most);
                trimmed.due(most, "leastOpening", 0, 1, most);
                trimmed.due(-3, "leastOpening", 0, 1, most + 1);
                trimmed.due(-3, "leastOpening", 0, 1, cap);
                Tried lowered = Tried.of(checks, cap, 2, "a" + (most - cap));
                lowered.due(most == 0 ? 0 : cap, "leastOpening", 0, 1, most);
                lowered.due(-3, "leastOpening", 0, 1, most + 1);
                lowered.due(-3, "leastOpening", 0, 1, cap);
            }
            Tried open = Tried.of(checks, cap, 2, "t" + cap + " t0v");
            open.due(cap, "leastOpening", 0, 2, cap);
        }
    }

    private static void noSuchOpeningComesLast() {
        // On this list no opening closes above 0, so that -3 holds for every y but 0.
        Tried tried = Tried.of(checks, 20, 2, "s0");
        for (int y : new int[] {1, 20, 21, Edges.HIGH}) {
            tried.due(-1, "leastOpening", 0, 2, y);
            tried.due(-1, "leastOpening", -1, 1, y);
            tried.due(-1, "leastOpening", 1, 0, y);
        }
        for (int y : Edges.outside(0, 20)) {
            tried.due(-2, "leastOpening", 0, 1, y);
        }
        tried.due(-3, "leastOpening", 0, 1, 1);
        tried.due(-3, "leastOpening", 0, 1, 20);
        tried.due(0, "leastOpening", 0, 1, 0);
    }

    private static void counts() {
        Tried tried = Tried.of(checks, 20, 10, "a-5 l3 t12 s8v");
        tried.due(0, "openings", 0, 4, 2);
        tried.due(9, "openings", 0, 4, 3);
        tried.due(1, "openings", 0, 4, 4);
        tried.due(1, "openings", 0, 4, 11);
        tried.due(4, "openings", 0, 4, 12);
        tried.due(0, "openings", 0, 4, 13);
        for (int cap : new int[] {4, 5, 59, 60}) {
            Tried ends = Tried.of(checks, cap, 10, "a-1 a1");
            ends.due(2, "openings", 0, 1, 0);
            ends.due(1, "openings", 0, 1, cap - 1);
            ends.due(0, "openings", 0, 1, cap);
            ends.due(0, "openings", 1, 2, 0);
            ends.due(1, "openings", 1, 2, 1);
            ends.due(2, "openings", 1, 2, cap);
        }
    }

    private static void noneOneAndAll() {
        for (int cap : new int[] {4, 5, 59, 60}) {
            for (int set = 0; set <= cap; set++) {
                Tried tried = Tried.of(checks, cap, 2, "s" + set);
                for (int y = 0; y <= cap; y++) {
                    tried.due(y == set ? cap + 1 : 0, "openings", 0, 1, y);
                }
            }
        }
    }

    private static void openingsOfEmptyBlocks() {
        for (String entries : new String[] {"", "s8", "s8 a-20 t0"}) {
            Tried tried = Tried.of(checks, 20, 3, entries);
            for (int at = 0; at <= tried.size(); at++) {
                for (int y = 0; y <= 20; y++) {
                    tried.due(1, "openings", at, at, y);
                }
            }
        }
    }
}
