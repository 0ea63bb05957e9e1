/** Promises 10 to 19: kindAt, amountAt, voidAt, run, repeat, rest, leastOpening, openings, liveCount, net. */
public final class QueryTest {
    private static final int LOW = Integer.MIN_VALUE;
    private static final int HIGH = Integer.MAX_VALUE;
    private static final Checks checks = new Checks();

    public static void main(String[] args) {
        entriesAreTold();
        eachKindIsApplied();
        runGoesInOrder();
        repeatRunsOnTheClosingBalance();
        restRunsCapPlusOneTimes();
        leastOpeningIsTheLeast();
        openingsAreCounted();
        liveEntriesAreCounted();
        netSumsLiveAdds();
        badBlocksComeFirst();
        badBalancesAreRefused();
        queriesChangeNothing();
        checks.finish();
    }

    private static void entriesAreTold() {
        LedgerScript script = Scripts.of(20, 10, "a-20 l0v t20 s7v");
        int[] kinds = {0, 1, 2, 3};
        int[] amounts = {-20, 0, 20, 7};
        int[] voids = {0, 1, 0, 1};
        for (int i = 0; i < 4; i++) {
            checks.due("kindAt(" + i + ")", script.kindAt(i), kinds[i]);
            checks.due("amountAt(" + i + ")", script.amountAt(i), amounts[i]);
            checks.due("voidAt(" + i + ")", script.voidAt(i), voids[i]);
        }
        for (int pos : new int[] {-1, 4, 39, 40, LOW, HIGH}) {
            checks.due("kindAt(" + pos + ")", script.kindAt(pos), -1);
            checks.due("amountAt(" + pos + ")", script.amountAt(pos), -1000);
            checks.due("voidAt(" + pos + ")", script.voidAt(pos), -1);
        }
    }

    private static void eachKindIsApplied() {
        oneEntryIs("a3", new int[] {0, 16, 17, 18, 20}, new int[] {3, 19, 20, 20, 20});
        oneEntryIs("a-3", new int[] {0, 2, 3, 4, 20}, new int[] {0, 0, 0, 1, 17});
        oneEntryIs("a20", new int[] {0, 1, 20}, new int[] {20, 20, 20});
        oneEntryIs("a-20", new int[] {0, 19, 20}, new int[] {0, 0, 0});
        oneEntryIs("l7", new int[] {0, 6, 7, 8, 20}, new int[] {7, 7, 7, 8, 20});
        oneEntryIs("t7", new int[] {0, 6, 7, 8, 20}, new int[] {0, 6, 7, 7, 7});
        oneEntryIs("s7", new int[] {0, 7, 20}, new int[] {7, 7, 7});
        for (String isVoid : new String[] {"a3v", "a-3v", "l7v", "t7v", "s7v"}) {
            oneEntryIs(isVoid, new int[] {0, 7, 13, 20}, new int[] {0, 7, 13, 20});
        }
    }

    private static void oneEntryIs(String entry, int[] openings, int[] closings) {
        LedgerScript script = Scripts.of(20, 10, entry);
        for (int i = 0; i < openings.length; i++) {
            checks.due(entry + " run on " + openings[i], script.run(0, 1, openings[i]), closings[i]);
        }
    }

    private static void runGoesInOrder() {
        LedgerScript script = Scripts.of(20, 10, "a15 a-12 s9v l5 t6");
        checks.due("run(0, 2, 10)", script.run(0, 2, 10), 8);
        checks.due("run(0, 5, 10)", script.run(0, 5, 10), 6);
        checks.due("run(0, 4, 0)", script.run(0, 4, 0), 5);
        checks.due("run(1, 4, 20)", script.run(1, 4, 20), 8);
        checks.due("run(2, 3, 20)", script.run(2, 3, 20), 20);
        for (int at = 0; at <= 5; at++) {
            checks.due("run of the empty block at " + at, script.run(at, at, 13), 13);
        }
    }

    private static void repeatRunsOnTheClosingBalance() {
        LedgerScript script = Scripts.of(60, 10, "a2 a-1 s0v");
        checks.due("repeat 0 times", script.repeat(0, 3, 5, 0), 5);
        checks.due("repeat once", script.repeat(0, 3, 5, 1), 6);
        checks.due("repeat 7 times", script.repeat(0, 3, 5, 7), 12);
        checks.due("repeat 200 times", script.repeat(0, 3, 5, 200), 59);
        checks.due("repeat of an empty block", script.repeat(1, 1, 5, 200), 5);
        checks.due("repeat 201 times", script.repeat(0, 3, 5, 201), -3);
        checks.due("repeat -1 times", script.repeat(0, 3, 5, -1), -3);
        checks.due("repeat LOW times", script.repeat(0, 3, 5, LOW), -3);
        checks.due("repeat HIGH times", script.repeat(0, 3, 5, HIGH), -3);
        checks.due("repeat on a bad balance, 201 times", script.repeat(0, 3, 61, 201), -2);
        checks.due("repeat of a bad block on a bad balance, 201 times", script.repeat(0, 4, 61, 201), -1);
    }

    private static void restRunsCapPlusOneTimes() {
        for (int cap : new int[] {4, 20, 60}) {
            LedgerScript script = Scripts.of(cap, 10, "a1 a-1 a-1 a1v");
            checks.due("rest of one up, cap " + cap, script.rest(0, 1, 0), cap);
            checks.due("rest of one down, cap " + cap, script.rest(1, 2, cap), 0);
            checks.due("rest of one up and two down, cap " + cap, script.rest(0, 4, cap), 0);
            checks.due("rest of a void entry, cap " + cap, script.rest(3, 4, 3), 3);
            checks.due("rest of an empty block, cap " + cap, script.rest(0, 0, 3), 3);
        }
        LedgerScript twoRests = Scripts.of(20, 10, "a-8 a12 a-4");
        checks.due("rest from below", twoRests.rest(0, 3, 1), 8);
        checks.due("rest from the middle", twoRests.rest(0, 3, 10), 10);
        checks.due("rest from above", twoRests.rest(0, 3, 20), 16);
    }

    private static void leastOpeningIsTheLeast() {
        LedgerScript script = Scripts.of(20, 10, "a-5 l3 t12 s8v");
        checks.due("leastOpening for 0", script.leastOpening(0, 4, 0), 0);
        checks.due("leastOpening for 3", script.leastOpening(0, 4, 3), 0);
        checks.due("leastOpening for 4", script.leastOpening(0, 4, 4), 9);
        checks.due("leastOpening for 12", script.leastOpening(0, 4, 12), 17);
        checks.due("leastOpening for 13", script.leastOpening(0, 4, 13), -3);
        checks.due("leastOpening for 20", script.leastOpening(0, 4, 20), -3);
        checks.due("leastOpening for 15 of the first", script.leastOpening(0, 1, 15), 20);
        checks.due("leastOpening for 16 of the first", script.leastOpening(0, 1, 16), -3);
        checks.due("leastOpening for 20 of an empty block", script.leastOpening(2, 2, 20), 20);
    }

    private static void openingsAreCounted() {
        LedgerScript script = Scripts.of(20, 10, "a-5 l3 t12 s8v");
        checks.due("openings for 2", script.openings(0, 4, 2), 0);
        checks.due("openings for 3", script.openings(0, 4, 3), 9);
        checks.due("openings for 4", script.openings(0, 4, 4), 1);
        checks.due("openings for 12", script.openings(0, 4, 12), 4);
        checks.due("openings for 13", script.openings(0, 4, 13), 0);
        checks.due("openings for 0 of an empty block", script.openings(1, 1, 0), 1);
        checks.due("openings for 20 of an empty block", script.openings(1, 1, 20), 1);
        script.setVoid(3, 4, 0);
        checks.due("openings for 8 of a SET", script.openings(0, 4, 8), 21);
    }

    private static void liveEntriesAreCounted() {
        LedgerScript script = Scripts.of(20, 10, "a1 l2v t3 s4v a5");
        checks.due("liveCount(0, 5)", script.liveCount(0, 5), 3);
        checks.due("liveCount(1, 4)", script.liveCount(1, 4), 1);
        checks.due("liveCount(1, 2)", script.liveCount(1, 2), 0);
        checks.due("liveCount(0, 1)", script.liveCount(0, 1), 1);
        checks.due("liveCount(5, 5)", script.liveCount(5, 5), 0);
    }

    private static void netSumsLiveAdds() {
        LedgerScript script = Scripts.of(20, 10, "a-9 l2 t3 s4 a5v a4");
        checks.due("net(0, 6)", script.net(0, 6), -5);
        checks.due("net(0, 1)", script.net(0, 1), -9);
        checks.due("net(1, 6)", script.net(1, 6), 4);
        checks.due("net of no ADD", script.net(1, 4), 0);
        checks.due("net of a void ADD", script.net(4, 5), 0);
        checks.due("net of an empty block", script.net(6, 6), 0);
        LedgerScript most = Scripts.of(60, 40, "a60 ".repeat(40));
        checks.due("net beyond cap", most.net(0, 40), 2400);
        LedgerScript least = Scripts.of(60, 40, "a-60 ".repeat(40));
        checks.due("net below the refusal of amountAt", least.net(0, 40), -2400);
    }

    private static void badBlocksComeFirst() {
        int[][] bad = {{-1, 0}, {-1, -1}, {2, 1}, {3, 2}, {0, 4}, {3, 4}, {4, 4}, {LOW, HIGH}, {HIGH, LOW}, {HIGH, HIGH},
            {LOW, LOW}, {0, HIGH}, {LOW, 0}};
        LedgerScript script = Scripts.of(20, 10, "a1 l2 t3");
        for (int[] block : bad) {
            String text = " of the block " + block[0] + ", " + block[1];
            for (int balance : new int[] {0, -1, 21}) {
                checks.due("run" + text, script.run(block[0], block[1], balance), -1);
                checks.due("repeat" + text, script.repeat(block[0], block[1], balance, 1), -1);
                checks.due("rest" + text, script.rest(block[0], block[1], balance), -1);
                checks.due("leastOpening" + text, script.leastOpening(block[0], block[1], balance), -1);
                checks.due("openings" + text, script.openings(block[0], block[1], balance), -1);
            }
            checks.due("liveCount" + text, script.liveCount(block[0], block[1]), -1);
            checks.due("net" + text, script.net(block[0], block[1]), -100000);
        }
    }

    private static void badBalancesAreRefused() {
        LedgerScript script = Scripts.of(20, 10, "a1 l2 t3");
        for (int balance : new int[] {-1, 21, LOW, HIGH}) {
            for (int to = 0; to <= 3; to += 3) {
                checks.due("run on " + balance, script.run(0, to, balance), -2);
                checks.due("repeat on " + balance, script.repeat(0, to, balance, 0), -2);
                checks.due("rest on " + balance, script.rest(0, to, balance), -2);
                checks.due("leastOpening for " + balance, script.leastOpening(0, to, balance), -2);
                checks.due("openings for " + balance, script.openings(0, to, balance), -2);
            }
        }
    }

    private static void queriesChangeNothing() {
        String entries = "a-1 l2 t3v s4 a5v";
        LedgerScript script = Scripts.of(20, 10, entries);
        script.run(0, 5, 3);
        script.repeat(0, 5, 3, 9);
        script.rest(0, 5, 3);
        script.leastOpening(0, 5, 3);
        script.openings(0, 5, 3);
        script.liveCount(0, 5);
        script.net(0, 5);
        checks.dueText("the list after queries", Scripts.show(script), entries);
        checks.due("cap() after queries", script.cap(), 20);
    }
}
