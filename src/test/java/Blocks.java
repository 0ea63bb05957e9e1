/** Good and bad blocks, at the edges that the document names, for any method that takes a block. */
final class Blocks {
    /** Each list is told by its size and its room: empty, one entry, some, full with the least and the greatest room. */
    private static final int[][] LISTS = {{0, 2}, {1, 2}, {2, 2}, {5, 10}, {39, 40}, {40, 40}};

    private final Checks checks;
    private final String name;
    private final int[] more;

    /** The arguments behind the block are such that they alone give no reason to refuse. */
    Blocks(Checks checks, String name, int... more) {
        this.checks = checks;
        this.name = name;
        this.more = more;
    }

    /** Every method that takes a block. */
    static Blocks[] ofAll(Checks checks) {
        return new Blocks[] {new Blocks(checks, "move", 0), new Blocks(checks, "copy", 0), new Blocks(checks, "reverse"),
            new Blocks(checks, "setVoid", 1), new Blocks(checks, "run", 0), new Blocks(checks, "repeat", 0, 1),
            new Blocks(checks, "rest", 0), new Blocks(checks, "leastOpening", 0), new Blocks(checks, "openings", 0),
            new Blocks(checks, "liveCount"), new Blocks(checks, "net")};
    }

    void badAreRefused() {
        for (int[] list : LISTS) {
            int size = list[0];
            for (int from : Edges.around(0, size)) {
                for (int to : Edges.around(0, size)) {
                    if (from < 0 || from > to || to > size) {
                        isBad(list, from, to);
                    }
                }
            }
        }
    }

    void goodAreTaken() {
        for (int[] list : LISTS) {
            for (int from = 0; from <= list[0]; from++) {
                for (int to = from; to <= list[0]; to++) {
                    isGood(list, from, to);
                }
            }
        }
    }

    /** 0 <= from: the lists' other edge does not matter, as to is size() or lies with from. */
    void fromStartsAtZero() {
        for (int[] list : LISTS) {
            isGood(list, 0, list[0]);
            for (int from : new int[] {-1, -2, -256, -65536, Edges.LOW + 1, Edges.LOW}) {
                isBad(list, from, list[0]);
                isBad(list, from, 0);
                isBad(list, from, from);
            }
        }
    }

    void fromIsAtMostTo() {
        for (int[] list : LISTS) {
            for (int at = 0; at <= list[0]; at++) {
                isGood(list, at, at);
                isBad(list, at, at - 1);
                isBad(list, at, Edges.LOW);
                isBad(list, at + 1, at);
                isBad(list, Edges.HIGH, at);
                if (at > 0) {
                    isGood(list, at - 1, at);
                }
            }
        }
    }

    void toIsAtMostSize() {
        for (int[] list : LISTS) {
            int size = list[0];
            isGood(list, 0, size);
            isGood(list, size, size);
            for (int to : new int[] {size + 1, size + 2, size + 256, size + 65536, Edges.HIGH - 1, Edges.HIGH}) {
                isBad(list, 0, to);
                isBad(list, size, to);
                isBad(list, to, to);
            }
        }
    }

    private Tried make(int[] list) {
        return Tried.of(checks, 20, list[1], Entries.many(list[0]));
    }

    private int refusal() {
        return name.equals("net") ? -100000 : -1;
    }

    private void isBad(int[] list, int from, int to) {
        Tried tried = make(list);
        tried.due(refusal(), name, Call.ofBlock(name, from, to, more).args());
        tried.sameList();
    }

    private void isGood(int[] list, int from, int to) {
        Tried tried = make(list);
        Call call = Call.ofBlock(name, from, to, more);
        checks.dueTrue(call + " is taken", tried.same(call) != refusal());
        tried.sameList();
    }
}
