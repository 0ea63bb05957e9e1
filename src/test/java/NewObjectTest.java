/** Promises 1 to 3: a new object, cap, size. */
public final class NewObjectTest {
    private static final Checks checks = new Checks();

    public static void main(String[] args) {
        capIsClamped();
        roomIsClamped();
        listIsEmptyAtFirst();
        sizeFollowsTheEntries();
        objectsAreApart();
        checks.finish();
    }

    private static void capIsClamped() {
        int[] given = {Integer.MIN_VALUE, -1, 0, 3, 4, 5, 33, 59, 60, 61, Integer.MAX_VALUE};
        int[] want = {4, 4, 4, 4, 4, 5, 33, 59, 60, 60, 60};
        for (int i = 0; i < given.length; i++) {
            LedgerScript script = new LedgerScript(given[i], 10);
            checks.due("cap() of a script made with cap " + given[i], script.cap(), want[i]);
            checks.due("run of an empty block on cap " + want[i], script.run(0, 0, want[i]), want[i]);
            checks.due("run of an empty block above cap " + want[i], script.run(0, 0, want[i] + 1), -2);
        }
    }

    private static void roomIsClamped() {
        int[] given = {Integer.MIN_VALUE, -1, 0, 1, 2, 3, 17, 39, 40, 41, Integer.MAX_VALUE};
        int[] want = {2, 2, 2, 2, 2, 3, 17, 39, 40, 40, 40};
        for (int i = 0; i < given.length; i++) {
            LedgerScript script = new LedgerScript(10, given[i]);
            for (int n = 1; n <= want[i]; n++) {
                checks.due("insert number " + n + " with room " + given[i], script.insert(0, 0, 0), n);
            }
            checks.due("insert into a full list with room " + given[i], script.insert(0, 0, 0), -1);
            checks.due("size() of a full list with room " + given[i], script.size(), want[i]);
        }
    }

    private static void listIsEmptyAtFirst() {
        LedgerScript script = new LedgerScript(20, 10);
        checks.due("size() of a new object", script.size(), 0);
        checks.due("kindAt(0) of a new object", script.kindAt(0), -1);
        checks.due("liveCount(0, 0) of a new object", script.liveCount(0, 0), 0);
        checks.due("liveCount(0, 1) of a new object", script.liveCount(0, 1), -1);
    }

    private static void sizeFollowsTheEntries() {
        LedgerScript script = Scripts.of(20, 10, "a1 l2 t3v");
        checks.due("size() with a void entry", script.size(), 3);
        script.remove(0);
        checks.due("size() after remove", script.size(), 2);
        script.copy(0, 2, 1);
        checks.due("size() after copy", script.size(), 4);
        script.move(0, 2, 2);
        script.reverse(0, 4);
        script.setVoid(0, 4, 1);
        checks.due("size() after move, reverse and setVoid", script.size(), 4);
        checks.due("cap() after edits", script.cap(), 20);
    }

    private static void objectsAreApart() {
        LedgerScript one = Scripts.of(20, 10, "a1");
        LedgerScript other = Scripts.of(30, 5, "l2 t3");
        checks.dueText("the first of two scripts", Scripts.show(one), "a1");
        checks.dueText("the second of two scripts", Scripts.show(other), "l2 t3");
        checks.due("cap() of the first", one.cap(), 20);
        checks.due("cap() of the second", other.cap(), 30);
    }
}
