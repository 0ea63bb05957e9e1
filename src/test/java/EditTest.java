/** Promises 4 to 9: insert, remove, move, copy, reverse, setVoid. */
public final class EditTest {
    private static final int LOW = Integer.MIN_VALUE;
    private static final int HIGH = Integer.MAX_VALUE;
    private static final String FIVE = "a-1 l2 t3v s4 a5v";
    private static final Checks checks = new Checks();

    public static void main(String[] args) {
        insertPutsIn();
        insertKeepsAmountsInRange();
        insertRefusesInOrder();
        removeTakesOut();
        moveRearranges();
        moveRefusesInOrder();
        copyPutsIn();
        copyRefusesInOrder();
        reverseTurnsRound();
        setVoidMarks();
        badBlocksAreRefused();
        checks.finish();
    }

    private static LedgerScript five() {
        return Scripts.of(20, 10, FIVE);
    }

    private static void dueEntries(String call, LedgerScript script, String want) {
        checks.dueText("the list after " + call, Scripts.show(script), want);
    }

    private static void insertPutsIn() {
        insertIs(0, "t9 a-1 l2 t3v s4 a5v");
        insertIs(3, "a-1 l2 t3v t9 s4 a5v");
        insertIs(5, "a-1 l2 t3v s4 a5v t9");
        LedgerScript script = Scripts.of(20, 10, "a1v");
        script.remove(0);
        script.insert(0, 0, 1);
        dueEntries("insert where a void entry stood", script, "a1");
    }

    private static void insertIs(int pos, String want) {
        LedgerScript script = five();
        checks.due("insert at " + pos, script.insert(pos, LedgerScript.TRIM, 9), 6);
        dueEntries("insert at " + pos, script, want);
    }

    private static void insertKeepsAmountsInRange() {
        int[] amounts = {LOW, -21, -20, -1, 0, 20, 21, HIGH};
        int[] dueForAdd = {-4, -4, 1, 1, 1, 1, -4, -4};
        int[] dueForOthers = {-4, -4, -4, -4, 1, 1, -4, -4};
        for (int kind = 0; kind < 4; kind++) {
            for (int i = 0; i < amounts.length; i++) {
                LedgerScript script = new LedgerScript(20, 10);
                int want = kind == LedgerScript.ADD ? dueForAdd[i] : dueForOthers[i];
                String call = "insert(0, " + kind + ", " + amounts[i] + ")";
                checks.due(call, script.insert(0, kind, amounts[i]), want);
                dueEntries(call, script, want == 1 ? "" + "alts".charAt(kind) + amounts[i] : "");
            }
        }
    }

    private static void insertRefusesInOrder() {
        LedgerScript script = Scripts.of(20, 3, "a1 l2v");
        checks.due("insert(-1, 4, 99)", script.insert(-1, 4, 99), -2);
        checks.due("insert(3, 0, 0)", script.insert(3, 0, 0), -2);
        checks.due("insert(LOW, 0, 0)", script.insert(LOW, 0, 0), -2);
        checks.due("insert(HIGH, 0, 0)", script.insert(HIGH, 0, 0), -2);
        checks.due("insert(0, 4, 99)", script.insert(0, 4, 99), -3);
        checks.due("insert(0, -1, 99)", script.insert(0, -1, 99), -3);
        checks.due("insert(0, LOW, 0)", script.insert(0, LOW, 0), -3);
        checks.due("insert(0, HIGH, 0)", script.insert(0, HIGH, 0), -3);
        checks.due("insert(2, 1, -1)", script.insert(2, 1, -1), -4);
        dueEntries("refused inserts", script, "a1 l2v");
        script.insert(2, 3, 7);
        checks.due("insert(-1, 4, 99) into a full list", script.insert(-1, 4, 99), -1);
        dueEntries("an insert into a full list", script, "a1 l2v s7");
    }

    private static void removeTakesOut() {
        removeIs(0, LedgerScript.ADD, "l2 t3v s4 a5v");
        removeIs(1, LedgerScript.LIFT, "a-1 t3v s4 a5v");
        removeIs(2, LedgerScript.TRIM, "a-1 l2 s4 a5v");
        removeIs(3, LedgerScript.SET, "a-1 l2 t3v a5v");
        removeIs(4, LedgerScript.ADD, "a-1 l2 t3v s4");
        removeIs(-1, -1, FIVE);
        removeIs(5, -1, FIVE);
        removeIs(LOW, -1, FIVE);
        removeIs(HIGH, -1, FIVE);
        checks.due("remove(0) on an empty list", new LedgerScript(20, 10).remove(0), -1);
        LedgerScript full = Scripts.of(20, 40, "l1" + " a1".repeat(39));
        checks.due("remove(0) on the fullest list", full.remove(0), LedgerScript.LIFT);
        dueEntries("remove(0) on the fullest list", full, ("a1 ".repeat(39)).trim());
    }

    private static void removeIs(int pos, int want, String entries) {
        LedgerScript script = five();
        checks.due("remove(" + pos + ")", script.remove(pos), want);
        dueEntries("remove(" + pos + ")", script, entries);
    }

    private static void moveRearranges() {
        moveIs(0, 2, 0, 2, FIVE);
        moveIs(0, 2, 1, 2, "t3v a-1 l2 s4 a5v");
        moveIs(0, 2, 3, 2, "t3v s4 a5v a-1 l2");
        moveIs(3, 5, 0, 2, "s4 a5v a-1 l2 t3v");
        moveIs(2, 5, 1, 3, "a-1 t3v s4 a5v l2");
        moveIs(1, 4, 2, 3, "a-1 a5v l2 t3v s4");
        moveIs(4, 5, 0, 1, "a5v a-1 l2 t3v s4");
        moveIs(0, 5, 0, 5, FIVE);
        for (int at = 0; at <= 5; at++) {
            for (int dest = 0; dest <= 5; dest++) {
                moveIs(at, at, dest, 0, FIVE);
            }
        }
    }

    private static void moveRefusesInOrder() {
        moveIs(0, 2, -1, -2, FIVE);
        moveIs(0, 2, 4, -2, FIVE);
        moveIs(0, 5, 1, -2, FIVE);
        moveIs(3, 3, 6, -2, FIVE);
        moveIs(0, 2, LOW, -2, FIVE);
        moveIs(0, 2, HIGH, -2, FIVE);
        moveIs(2, 1, -1, -1, FIVE);
        moveIs(-1, 1, 9, -1, FIVE);
        moveIs(4, 6, 9, -1, FIVE);
    }

    private static void moveIs(int from, int to, int dest, int want, String entries) {
        LedgerScript script = five();
        String call = "move(" + from + ", " + to + ", " + dest + ")";
        checks.due(call, script.move(from, to, dest), want);
        dueEntries(call, script, entries);
    }

    private static void copyPutsIn() {
        copyIs(0, 2, 0, 7, "a-1 l2 a-1 l2 t3v s4 a5v");
        copyIs(1, 4, 0, 8, "l2 t3v s4 a-1 l2 t3v s4 a5v");
        copyIs(1, 4, 1, 8, "a-1 l2 t3v s4 l2 t3v s4 a5v");
        copyIs(1, 4, 2, 8, "a-1 l2 l2 t3v s4 t3v s4 a5v");
        copyIs(1, 4, 3, 8, "a-1 l2 t3v l2 t3v s4 s4 a5v");
        copyIs(1, 4, 4, 8, "a-1 l2 t3v s4 l2 t3v s4 a5v");
        copyIs(1, 4, 5, 8, "a-1 l2 t3v s4 a5v l2 t3v s4");
        copyIs(0, 5, 2, 10, "a-1 l2 a-1 l2 t3v s4 a5v t3v s4 a5v");
        copyIs(3, 3, 1, 5, FIVE);
    }

    private static void copyRefusesInOrder() {
        copyIs(2, 1, 9, -1, FIVE);
        copyIs(-1, 2, 0, -1, FIVE);
        copyIs(0, 6, 0, -1, FIVE);
        copyIs(0, 2, -1, -2, FIVE);
        copyIs(0, 2, 6, -2, FIVE);
        copyIs(0, 2, LOW, -2, FIVE);
        copyIs(0, 2, HIGH, -2, FIVE);
        LedgerScript tight = Scripts.of(20, 7, FIVE);
        checks.due("copy of too much", tight.copy(0, 3, 0), -3);
        checks.due("copy of too much to a bad place", tight.copy(0, 3, 6), -2);
        dueEntries("refused copies", tight, FIVE);
        checks.due("copy that just fits", tight.copy(3, 5, 4), 7);
        dueEntries("a copy that just fits", tight, "a-1 l2 t3v s4 s4 a5v a5v");
        checks.due("copy of an empty block in a full list", tight.copy(7, 7, 0), 7);
        checks.due("copy of one entry in a full list", tight.copy(0, 1, 0), -3);
    }

    private static void copyIs(int from, int to, int dest, int want, String entries) {
        LedgerScript script = five();
        String call = "copy(" + from + ", " + to + ", " + dest + ")";
        checks.due(call, script.copy(from, to, dest), want);
        dueEntries(call, script, entries);
    }

    private static void reverseTurnsRound() {
        reverseIs(0, 5, "a5v s4 t3v l2 a-1");
        reverseIs(1, 5, "a-1 a5v s4 t3v l2");
        reverseIs(1, 4, "a-1 s4 t3v l2 a5v");
        reverseIs(1, 3, "a-1 t3v l2 s4 a5v");
        reverseIs(2, 3, FIVE);
        reverseIs(0, 0, FIVE);
        reverseIs(5, 5, FIVE);
    }

    private static void reverseIs(int from, int to, String entries) {
        LedgerScript script = five();
        String call = "reverse(" + from + ", " + to + ")";
        checks.due(call, script.reverse(from, to), to - from);
        dueEntries(call, script, entries);
    }

    private static void setVoidMarks() {
        setVoidIs(0, 5, 1, 3, "a-1v l2v t3v s4v a5v");
        setVoidIs(0, 5, 0, 2, "a-1 l2 t3 s4 a5");
        setVoidIs(1, 3, 1, 1, "a-1 l2v t3v s4 a5v");
        setVoidIs(1, 3, 0, 1, "a-1 l2 t3 s4 a5v");
        setVoidIs(0, 2, 0, 0, FIVE);
        setVoidIs(4, 5, 1, 0, FIVE);
        setVoidIs(3, 3, 1, 0, FIVE);
        setVoidIs(0, 1, 2, 1, "a-1v l2 t3v s4 a5v");
        setVoidIs(0, 1, -1, 1, "a-1v l2 t3v s4 a5v");
        setVoidIs(0, 1, LOW, 1, "a-1v l2 t3v s4 a5v");
        setVoidIs(0, 1, HIGH, 1, "a-1v l2 t3v s4 a5v");
    }

    private static void setVoidIs(int from, int to, int flag, int want, String entries) {
        LedgerScript script = five();
        String call = "setVoid(" + from + ", " + to + ", " + flag + ")";
        checks.due(call, script.setVoid(from, to, flag), want);
        dueEntries(call, script, entries);
    }

    private static void badBlocksAreRefused() {
        int[][] bad = {{-1, 0}, {-1, -1}, {2, 1}, {5, 4}, {0, 6}, {5, 6}, {6, 6}, {LOW, HIGH}, {HIGH, LOW}, {HIGH, HIGH},
            {LOW, LOW}, {0, HIGH}, {LOW, 0}};
        LedgerScript script = five();
        for (int[] block : bad) {
            String text = " of the block " + block[0] + ", " + block[1];
            checks.due("move" + text, script.move(block[0], block[1], 0), -1);
            checks.due("copy" + text, script.copy(block[0], block[1], 0), -1);
            checks.due("reverse" + text, script.reverse(block[0], block[1]), -1);
            checks.due("setVoid 1" + text, script.setVoid(block[0], block[1], 1), -1);
            checks.due("setVoid 0" + text, script.setVoid(block[0], block[1], 0), -1);
            dueEntries("refusals" + text, script, FIVE);
        }
    }
}
