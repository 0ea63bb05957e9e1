/** Good and bad balances for the methods that take a block and a balance and then the arguments in "more". */
final class Balances {
    private Balances() {
    }

    static void badAreRefused(Checks checks, String name, int... more) {
        for (int given : new int[] {Edges.LOW, 3, 4, 5, 20, 59, 60, 61, Edges.HIGH}) {
            for (String entries : new String[] {"", "a1", "a-1 l2 t3v s4 a0v"}) {
                Tried tried = Tried.of(checks, given, 10, entries);
                for (int balance : Edges.outside(0, tried.cap())) {
                    tried.due(-2, name, args(0, tried.size(), balance, more));
                    tried.due(-2, name, args(0, 0, balance, more));
                }
                for (int balance : Edges.inside(0, tried.cap())) {
                    checks.dueTrue(name + " takes " + balance, tried.same(name, args(0, tried.size(), balance, more)) != -2);
                    checks.dueTrue(name + " takes " + balance, tried.same(name, args(0, 0, balance, more)) != -2);
                }
                tried.sameList();
            }
        }
    }

    static void badBlockComesFirst(Checks checks, String name, int... more) {
        int[][] bad = {{-1, 0}, {-1, -1}, {2, 1}, {0, 6}, {5, 6}, {6, 6}, {Edges.LOW, Edges.HIGH}, {Edges.HIGH, Edges.LOW}};
        for (int[] block : bad) {
            Tried tried = Tried.of(checks, 20, 10, Entries.FIVE);
            for (int balance : Edges.outside(0, 20)) {
                tried.due(-1, name, args(block[0], block[1], balance, more));
            }
            tried.due(-1, name, args(block[0], block[1], 0, more));
            tried.due(-1, name, args(block[0], block[1], 20, more));
            tried.dueEntries(Entries.FIVE);
        }
    }

    private static int[] args(int from, int to, int balance, int... more) {
        int[] args = new int[more.length + 3];
        args[0] = from;
        args[1] = to;
        args[2] = balance;
        System.arraycopy(more, 0, args, 3, more.length);
        return args;
    }
}
