/** Promise 6: move. */
public final class MoveTest {
    private static final Checks checks = new Checks();
    private static final Blocks blocks = new Blocks(checks, "move", 0);

    public static void main(String[] args) {
        checks.holds("6: put back, in its order, so that its first entry stands at position dest", MoveTest::rearranges);
        checks.holds("6: of the whole list", MoveTest::everyMove);
        checks.holds("6: in a full list", MoveTest::movesInAFullList);
        checks.holds("6: -1 if the block is bad", blocks::badAreRefused);
        checks.holds("6: -1 if the block is bad (and not if it is good)", blocks::goodAreTaken);
        checks.holds("6: -2 if dest is not in 0 .. size() - (to - from)", MoveTest::badDestinations);
        checks.holds("6: Refusals, in this order", MoveTest::order);
        checks.holds("6: for an empty block nothing changes and the answer is 0", MoveTest::emptyBlocks);
        checks.finish();
    }

    private static void is(int from, int to, int dest, int want, String entries) {
        Tried tried = Tried.of(checks, 20, 10, Entries.FIVE);
        tried.due(want, "move", from, to, dest);
        tried.dueEntries(entries);
    }

    private static void rearranges() {
        is(0, 2, 0, 2, Entries.FIVE);
        is(0, 2, 1, 2, "t3v a-1 l2 s4 a5v");
        is(0, 2, 2, 2, "t3v s4 a-1 l2 a5v");
        is(0, 2, 3, 2, "t3v s4 a5v a-1 l2");
        is(3, 5, 0, 2, "s4 a5v a-1 l2 t3v");
        is(3, 5, 2, 2, "a-1 l2 s4 a5v t3v");
        is(3, 5, 3, 2, Entries.FIVE);
        is(2, 5, 1, 3, "a-1 t3v s4 a5v l2");
        is(1, 4, 0, 3, "l2 t3v s4 a-1 a5v");
        is(1, 4, 1, 3, Entries.FIVE);
        is(1, 4, 2, 3, "a-1 a5v l2 t3v s4");
        is(4, 5, 0, 1, "a5v a-1 l2 t3v s4");
        is(0, 1, 4, 1, "l2 t3v s4 a5v a-1");
        is(0, 5, 0, 5, Entries.FIVE);
    }

    private static void everyMove() {
        for (int size = 0; size <= 7; size++) {
            for (int from = 0; from <= size; from++) {
                for (int to = from; to <= size; to++) {
                    for (int dest = 0; dest <= size - (to - from); dest++) {
                        Tried tried = Tried.of(checks, 20, 10, Entries.many(size));
                        tried.due(to - from, "move", from, to, dest);
                        tried.sameList();
                    }
                }
            }
        }
    }

    private static void movesInAFullList() {
        for (int room : new int[] {2, 3, 39, 40}) {
            for (int cut = 0; cut <= room; cut++) {
                Tried up = Tried.of(checks, 20, room, Entries.many(room));
                up.due(cut, "move", 0, cut, room - cut);
                up.sameList();
                Tried down = Tried.of(checks, 20, room, Entries.many(room));
                down.due(room - cut, "move", cut, room, 0);
                down.sameList();
            }
        }
    }

    private static void badDestinations() {
        for (int from = 0; from <= 5; from++) {
            for (int to = from; to <= 5; to++) {
                int last = 5 - (to - from);
                for (int dest : Edges.outside(0, last)) {
                    is(from, to, dest, -2, Entries.FIVE);
                }
                for (int dest : Edges.inside(0, last)) {
                    Tried tried = Tried.of(checks, 20, 10, Entries.FIVE);
                    tried.due(to - from, "move", from, to, dest);
                    tried.sameList();
                }
            }
        }
        Tried fullest = Tried.of(checks, 20, 40, Entries.many(40));
        fullest.due(-2, "move", 0, 40, 1);
        fullest.due(40, "move", 0, 40, 0);
        fullest.due(-2, "move", 0, 1, 40);
        fullest.due(1, "move", 0, 1, 39);
        fullest.sameList();
    }

    private static void order() {
        for (int dest : new int[] {Edges.LOW, -1, 6, 9, Edges.HIGH}) {
            is(2, 1, dest, -1, Entries.FIVE);
            is(-1, 1, dest, -1, Entries.FIVE);
            is(4, 6, dest, -1, Entries.FIVE);
            is(6, 6, dest, -1, Entries.FIVE);
            is(Edges.HIGH, Edges.LOW, dest, -1, Entries.FIVE);
            is(Edges.LOW, Edges.HIGH, dest, -1, Entries.FIVE);
        }
    }

    private static void emptyBlocks() {
        for (int at = 0; at <= 5; at++) {
            for (int dest = 0; dest <= 5; dest++) {
                is(at, at, dest, 0, Entries.FIVE);
            }
            is(at, at, -1, -2, Entries.FIVE);
            is(at, at, 6, -2, Entries.FIVE);
        }
        Tried empty = new Tried(checks, 20, 2);
        empty.due(0, "move", 0, 0, 0);
        empty.due(-2, "move", 0, 0, 1);
        empty.due(-2, "move", 0, 0, -1);
        empty.dueEntries("");
    }
}
