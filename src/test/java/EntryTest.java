/** Promises 10 to 12: kindAt, amountAt, voidAt. */
public final class EntryTest {
    private static final Checks checks = new Checks();

    public static void main(String[] args) {
        checks.holds("10: The kind of the entry at pos", EntryTest::kinds);
        checks.holds("10: -1 if pos is not in 0 .. size()-1", () -> badPositions("kindAt", -1));
        checks.holds("11: The amount of the entry at pos, void or not", EntryTest::amounts);
        checks.holds("11: -1000 if pos is not in 0 .. size()-1", () -> badPositions("amountAt", -1000));
        checks.holds("12: 1 if the entry at pos is void, 0 if it is live", EntryTest::states);
        checks.holds("12: -1 if pos is not in 0 .. size()-1", () -> badPositions("voidAt", -1));
        checks.finish();
    }

    private static void kinds() {
        for (int kind = 0; kind < 4; kind++) {
            Tried tried = Tried.of(checks, 20, 3, "a1 " + Entries.text(kind, 2, false) + " " + Entries.text(kind, 2, true));
            tried.due(kind, "kindAt", 1);
            tried.due(kind, "kindAt", 2);
        }
    }

    private static void amounts() {
        for (int cap : new int[] {4, 20, 60}) {
            for (int amount : new int[] {-cap, 1 - cap, -1, 0, 1, cap - 1, cap}) {
                Tried tried = Tried.of(checks, cap, 2, "a" + amount + " a" + amount + "v");
                tried.due(amount, "amountAt", 0);
                tried.due(amount, "amountAt", 1);
            }
            for (int amount : new int[] {0, 1, cap - 1, cap}) {
                for (int kind = 1; kind < 4; kind++) {
                    Tried tried = Tried.of(checks, cap, 2, Entries.text(kind, amount, true) + " "
                        + Entries.text(kind, amount, false));
                    tried.due(amount, "amountAt", 0);
                    tried.due(amount, "amountAt", 1);
                }
            }
        }
    }

    private static void states() {
        Tried tried = Tried.of(checks, 20, 4, "a1 l1v t1 s1v");
        for (int pos = 0; pos < 4; pos++) {
            tried.due(pos % 2, "voidAt", pos);
        }
        tried.due(2, "setVoid", 0, 4, 0);
        for (int pos = 0; pos < 4; pos++) {
            tried.due(0, "voidAt", pos);
        }
        tried.due(4, "setVoid", 0, 4, Edges.LOW);
        for (int pos = 0; pos < 4; pos++) {
            tried.due(1, "voidAt", pos);
        }
    }

    private static void badPositions(String name, int refusal) {
        for (int size : new int[] {0, 1, 2, 5, 39, 40}) {
            Tried tried = Tried.of(checks, 20, 40, Entries.many(size));
            for (int pos : Edges.outside(0, size - 1)) {
                tried.due(refusal, name, pos);
            }
            for (int pos = 0; pos < size; pos++) {
                checks.dueTrue(name + "(" + pos + ") is told", tried.same(name, pos) != refusal);
            }
            tried.sameList();
        }
        // What has been taken out is not told, though its place may still hold it.
        Tried shrunk = Tried.of(checks, 20, 40, Entries.many(40));
        for (int size = 39; size >= 0; size--) {
            shrunk.same("remove", size / 2);
            shrunk.due(refusal, name, size);
        }
    }
}
