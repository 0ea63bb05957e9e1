/** Promise 4: insert. */
public final class InsertTest {
    private static final Checks checks = new Checks();

    public static void main(String[] args) {
        checks.holds("4: A new live entry is put in at position pos", InsertTest::putsInAtPos);
        checks.holds("4: A new live entry", InsertTest::newEntryIsLive);
        checks.holds("4: the entries that stood at pos and after it move up by one", InsertTest::othersMoveUp);
        checks.holds("4: -1 if size() equals room", InsertTest::fullIsRefused);
        checks.holds("4: -2 if pos is not in 0 .. size()", InsertTest::badPositions);
        checks.holds("4: -3 if kind is not in 0 .. 3", InsertTest::badKinds);
        checks.holds("4: -4 if amount is not in the range of its kind", InsertTest::badAmounts);
        checks.holds("4: Refusals, tested in this order", InsertTest::order);
        checks.holds("4: Otherwise answers the new size", InsertTest::answersTheNewSize);
        checks.finish();
    }

    private static Tried five() {
        return Tried.of(checks, 20, 10, Entries.FIVE);
    }

    private static void putsInAtPos() {
        String[] want = {"t9 a-1 l2 t3v s4 a5v", "a-1 t9 l2 t3v s4 a5v", "a-1 l2 t9 t3v s4 a5v", "a-1 l2 t3v t9 s4 a5v",
            "a-1 l2 t3v s4 t9 a5v", "a-1 l2 t3v s4 a5v t9"};
        for (int pos = 0; pos <= 5; pos++) {
            Tried tried = five();
            tried.due(6, "insert", pos, LedgerScript.TRIM, 9);
            tried.dueEntries(want[pos]);
        }
        Tried empty = new Tried(checks, 20, 2);
        empty.due(1, "insert", 0, LedgerScript.ADD, -7);
        empty.dueEntries("a-7");
    }

    private static void newEntryIsLive() {
        for (int pos = 0; pos <= 2; pos++) {
            Tried among = Tried.of(checks, 20, 10, "a1v a1v");
            among.due(3, "insert", pos, LedgerScript.ADD, 1);
            among.due(0, "voidAt", pos);
            among.due(1, "liveCount", 0, 3);
        }
        Tried where = Tried.of(checks, 20, 2, "a1 s2v");
        where.due(LedgerScript.SET, "remove", 1);
        where.due(2, "insert", 1, LedgerScript.SET, 2);
        where.dueEntries("a1 s2");
    }

    private static void othersMoveUp() {
        for (int pos = 0; pos <= 39; pos++) {
            Tried tried = Tried.of(checks, 20, 40, Entries.many(39));
            tried.due(40, "insert", pos, LedgerScript.SET, 17);
            tried.sameList();
        }
    }

    private static void fullIsRefused() {
        for (int room : new int[] {2, 3, 39, 40}) {
            for (int pos : new int[] {0, 1, room - 1, room}) {
                Tried tried = Tried.of(checks, 20, room, Entries.many(room - 1));
                tried.due(room, "insert", 0, 0, 0);
                tried.due(-1, "insert", pos, 0, 0);
                tried.sameList();
                tried.same("remove", room - 1);
                tried.due(room, "insert", room - 1, 1, 1);
                tried.due(-1, "insert", pos, 1, 1);
            }
        }
        Tried filledByCopy = Tried.of(checks, 20, 4, "a1 a2");
        filledByCopy.due(4, "copy", 0, 2, 1);
        filledByCopy.due(-1, "insert", 0, 0, 0);
        Tried allVoid = Tried.of(checks, 20, 2, "a1v a2v");
        allVoid.due(-1, "insert", 0, 0, 0);
    }

    private static void badPositions() {
        for (int size : new int[] {0, 1, 5, 38, 39}) {
            for (int pos : Edges.outside(0, size)) {
                Tried tried = Tried.of(checks, 20, 40, Entries.many(size));
                tried.due(-2, "insert", pos, 0, 0);
                tried.sameList();
            }
            for (int pos : Edges.inside(0, size)) {
                Tried tried = Tried.of(checks, 20, 40, Entries.many(size));
                tried.due(size + 1, "insert", pos, 0, 0);
                tried.sameList();
            }
        }
    }

    private static void badKinds() {
        for (int kind : Edges.outside(0, 3)) {
            Tried tried = five();
            tried.due(-3, "insert", 0, kind, 0);
            tried.dueEntries(Entries.FIVE);
        }
        for (int kind : Edges.inside(0, 3)) {
            Tried tried = five();
            tried.due(6, "insert", 0, kind, 0);
            tried.due(kind, "kindAt", 0);
        }
    }

    private static void badAmounts() {
        for (int given : new int[] {Edges.LOW, 3, 4, 5, 20, 59, 60, 61, Edges.HIGH}) {
            int cap = new Model(given, 10).cap();
            amountsAre(given, LedgerScript.ADD, -cap, cap);
            amountsAre(given, LedgerScript.LIFT, 0, cap);
            amountsAre(given, LedgerScript.TRIM, 0, cap);
            amountsAre(given, LedgerScript.SET, 0, cap);
        }
    }

    private static void amountsAre(int givenCap, int kind, int least, int most) {
        for (int amount : Edges.outside(least, most)) {
            Tried tried = new Tried(checks, givenCap, 10);
            tried.due(-4, "insert", 0, kind, amount);
            tried.dueEntries("");
        }
        for (int amount : Edges.inside(least, most)) {
            Tried tried = new Tried(checks, givenCap, 10);
            tried.due(1, "insert", 0, kind, amount);
            tried.due(amount, "amountAt", 0);
        }
    }

    /** A call for every set of reasons at once: the first reason of the order is the one that is told. */
    private static void order() {
        for (boolean full : new boolean[] {true, false}) {
            Tried tried = Tried.of(checks, 20, full ? 5 : 6, Entries.FIVE);
            for (int pos : new int[] {Edges.LOW, -1, 6, Edges.HIGH}) {
                for (int kind : new int[] {Edges.LOW, -1, 0, 1, 3, 4, Edges.HIGH}) {
                    for (int amount : new int[] {Edges.LOW, -21, 0, 21, Edges.HIGH}) {
                        // Some 140 calls on one object, so that the list is looked at only once behind them.
                        tried.due(full ? -1 : -2, "insert", pos, kind, amount);
                    }
                }
            }
            for (int kind : new int[] {Edges.LOW, -1, 4, Edges.HIGH}) {
                for (int amount : new int[] {Edges.LOW, -21, -1, 0, 20, 21, Edges.HIGH}) {
                    tried.due(full ? -1 : -3, "insert", 2, kind, amount);
                }
            }
            for (int amount : new int[] {Edges.LOW, -21, 21, Edges.HIGH}) {
                tried.due(full ? -1 : -4, "insert", 2, LedgerScript.ADD, amount);
                tried.due(full ? -1 : -4, "insert", 2, LedgerScript.SET, amount);
            }
            tried.dueEntries(Entries.FIVE);
        }
    }

    private static void answersTheNewSize() {
        for (int room : new int[] {2, 40}) {
            Tried tried = new Tried(checks, 20, room);
            for (int size = 1; size <= room; size++) {
                tried.due(size, "insert", (size - 1) / 2, size % 4, size % 5);
            }
            tried.sameList();
        }
    }
}
