/** Promises 1 to 19: runs of made-up calls, each held against the model, and the whole list at the end of a run. */
public final class ModelTest {
    private static final int RUNS = 4000;
    // With six calls a step and the look at the whole list, a run stays within the 512 calls that the document promises.
    private static final int STEPS = 60;
    private static final int[] STRANGE = {Integer.MIN_VALUE, -100000, -61, -1, 61, 201, 100000, Integer.MAX_VALUE};
    private static final Checks checks = new Checks();

    // A counter of its own instead of a random source, so that every run of the test makes the same calls.
    private static long state;

    private final Tried tried;

    private ModelTest(Tried tried) {
        this.tried = tried;
    }

    public static void main(String[] args) {
        checks.holds("promises 1 to 19", ModelTest::runs);
        checks.finish();
    }

    private static void runs() {
        for (int run = 0; run < RUNS && checks.clean(); run++) {
            state = run;
            int cap = between(0, 64);
            int room = between(0, 44);
            new ModelTest(new Tried(checks, cap, room)).compare();
        }
    }

    private static int below(int bound) {
        state = state * 6364136223846793005L + 1442695040888963407L;
        return (int) ((state >>> 33) % bound);
    }

    private static int between(int least, int most) {
        return least + below(most - least + 1);
    }

    private static int maybeStrange(int usual) {
        return below(40) == 0 ? STRANGE[below(STRANGE.length)] : usual;
    }

    private int position() {
        return maybeStrange(between(-below(2), tried.size() + below(2)));
    }

    private int balance() {
        return maybeStrange(between(-below(2), tried.cap() + below(2)));
    }

    private void compare() {
        tried.same("cap");
        // Some of the runs grow fast and stay near room, where most refusals are.
        int eagerness = below(4);
        for (int step = 0; step < STEPS && checks.clean(); step++) {
            if (below(4) < eagerness && tried.size() < tried.room()) {
                insert();
            } else {
                edit(below(6));
            }
            tried.same("size");
            compareEntry(position());
            ask(below(7));
        }
        tried.sameList();
    }

    private void insert() {
        int pos = position();
        int kind = maybeStrange(between(-below(2), 3 + below(2)));
        int amount = maybeStrange(kind == 0 ? between(-tried.cap() - 1, tried.cap() + 1) : balance());
        tried.same("insert", pos, kind, amount);
    }

    private void edit(int which) {
        int from = position();
        int to = below(3) == 0 ? position() : Math.max(from, position());
        int dest = position();
        switch (which) {
            case 0 -> insert();
            case 1 -> tried.same("remove", from);
            case 2 -> tried.same("move", from, to, dest);
            case 3 -> tried.same("copy", from, to, dest);
            case 4 -> tried.same("reverse", from, to);
            default -> tried.same("setVoid", from, to, between(-1, 1) * between(0, 3));
        }
    }

    private void compareEntry(int pos) {
        tried.same("kindAt", pos);
        tried.same("amountAt", pos);
        tried.same("voidAt", pos);
    }

    private void ask(int which) {
        int from = position();
        int to = below(4) == 0 ? position() : Math.max(from, position());
        int x = balance();
        switch (which) {
            case 0 -> tried.same("run", from, to, x);
            case 1 -> tried.same("repeat", from, to, x, maybeStrange(between(-1, 201)));
            case 2 -> tried.same("rest", from, to, x);
            case 3 -> tried.same("leastOpening", from, to, x);
            case 4 -> tried.same("openings", from, to, x);
            case 5 -> tried.same("liveCount", from, to);
            default -> tried.same("net", from, to);
        }
    }
}
