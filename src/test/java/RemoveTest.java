/** Promise 5: remove. */
public final class RemoveTest {
    private static final Checks checks = new Checks();

    public static void main(String[] args) {
        checks.holds("5: The entry at pos is taken out; later entries move down by one", RemoveTest::takesOut);
        checks.holds("5: -1 if pos is not in 0 .. size()-1", RemoveTest::badPositions);
        checks.holds("5: answers the kind of the entry taken out", RemoveTest::answersTheKind);
        checks.holds("5: down to an empty list and up again", RemoveTest::emptiesTheList);
        checks.finish();
    }

    private static void takesOut() {
        String[] want = {"l2 t3v s4 a5v", "a-1 t3v s4 a5v", "a-1 l2 s4 a5v", "a-1 l2 t3v a5v", "a-1 l2 t3v s4"};
        int[] kinds = {0, 1, 2, 3, 0};
        for (int pos = 0; pos < 5; pos++) {
            Tried tried = Tried.of(checks, 20, 5, Entries.FIVE);
            tried.due(kinds[pos], "remove", pos);
            tried.dueEntries(want[pos]);
        }
        for (int pos = 0; pos < 40; pos++) {
            Tried tried = Tried.of(checks, 20, 40, Entries.many(40));
            tried.due(pos % 4, "remove", pos);
            tried.sameList();
        }
    }

    private static void badPositions() {
        for (int size : new int[] {0, 1, 2, 5, 39, 40}) {
            for (int pos : Edges.outside(0, size - 1)) {
                Tried tried = Tried.of(checks, 20, 40, Entries.many(size));
                tried.due(-1, "remove", pos);
                tried.sameList();
            }
            for (int pos = 0; pos < size; pos++) {
                Tried tried = Tried.of(checks, 20, 40, Entries.many(size));
                tried.due(pos % 4, "remove", pos);
                tried.due(size - 1, "size");
            }
        }
    }

    private static void answersTheKind() {
        for (int kind = 0; kind < 4; kind++) {
            for (int isVoid = 0; isVoid < 2; isVoid++) {
                Tried tried = Tried.of(checks, 20, 2, Entries.text(kind, 1, isVoid == 1));
                tried.due(kind, "remove", 0);
                tried.dueEntries("");
            }
        }
    }

    private static void emptiesTheList() {
        Tried tried = Tried.of(checks, 20, 2, "l1v t2");
        tried.due(LedgerScript.LIFT, "remove", 0);
        tried.due(-1, "remove", 1);
        tried.due(LedgerScript.TRIM, "remove", 0);
        tried.due(-1, "remove", 0);
        tried.due(1, "insert", 0, LedgerScript.SET, 3);
        tried.dueEntries("s3");
        tried.due(LedgerScript.SET, "remove", 0);
    }
}
