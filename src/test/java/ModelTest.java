/** Promises 1 to 19: runs of made-up calls, each held against the model, and the whole list at the end of a run. */
public final class ModelTest {
    private static final int RUNS = 4000;
    // With six calls a step and the look at the whole list, a run stays within the 512 calls that the document promises.
    private static final int STEPS = 60;
    private static final int[] STRANGE = {Integer.MIN_VALUE, -100000, -61, -1, 61, 201, 100000, Integer.MAX_VALUE};
    private static final Checks checks = new Checks();

    // A counter of its own instead of a random source, so that every run of the test makes the same calls.
    private static long state;

    private LedgerScript script;
    private Model model;
    private String trace;

    public static void main(String[] args) {
        for (int run = 0; run < RUNS && checks.clean(); run++) {
            state = run;
            new ModelTest().compare(run);
        }
        checks.finish();
    }

    private static int below(int bound) {
        state = state * 6364136223846793005L + 1442695040888963407L;
        return (int) ((state >>> 33) % bound);
    }

    private static int between(int least, int most) {
        return least + below(most - least + 1);
    }

    private int maybeStrange(int usual) {
        return below(40) == 0 ? STRANGE[below(STRANGE.length)] : usual;
    }

    private int position() {
        return maybeStrange(between(-below(2), model.entries.size() + below(2)));
    }

    private int balance() {
        return maybeStrange(between(-below(2), model.cap + below(2)));
    }

    private void compare(int run) {
        int cap = between(0, 64);
        int room = between(0, 44);
        script = new LedgerScript(cap, room);
        model = new Model(cap, room);
        checks.due("run " + run + ": cap()", script.cap(), model.cap);
        // Some of the runs grow fast and stay near room, where most refusals are.
        int eagerness = below(4);
        for (int step = 0; step < STEPS && checks.clean(); step++) {
            trace = "run " + run + ", step " + step + ": ";
            if (below(4) < eagerness && model.entries.size() < model.room) {
                insert();
            } else {
                edit(below(6));
            }
            due("size()", script.size(), model.entries.size());
            compareEntry(position());
            ask(below(7));
        }
        for (int pos = -1; pos <= model.entries.size(); pos++) {
            compareEntry(pos);
        }
    }

    private void due(String call, int got, int want) {
        checks.due(trace + call, got, want);
    }

    private void insert() {
        int pos = position();
        int kind = maybeStrange(between(-below(2), 3 + below(2)));
        int amount = maybeStrange(kind == 0 ? between(-model.cap - 1, model.cap + 1) : balance());
        due("insert(" + pos + ", " + kind + ", " + amount + ")", script.insert(pos, kind, amount),
            model.insert(pos, kind, amount));
    }

    private void edit(int which) {
        int a = position();
        int b = below(3) == 0 ? position() : Math.max(a, position());
        int dest = position();
        String block = "(" + a + ", " + b + ", ";
        switch (which) {
            case 0 -> insert();
            case 1 -> due("remove(" + a + ")", script.remove(a), model.remove(a));
            case 2 -> due("move" + block + dest + ")", script.move(a, b, dest), model.move(a, b, dest));
            case 3 -> due("copy" + block + dest + ")", script.copy(a, b, dest), model.copy(a, b, dest));
            case 4 -> due("reverse" + block + ")", script.reverse(a, b), model.reverse(a, b));
            default -> {
                int flag = between(-1, 1) * between(0, 3);
                due("setVoid" + block + flag + ")", script.setVoid(a, b, flag), model.setVoid(a, b, flag));
            }
        }
    }

    private void compareEntry(int pos) {
        due("kindAt(" + pos + ")", script.kindAt(pos), model.kindAt(pos));
        due("amountAt(" + pos + ")", script.amountAt(pos), model.amountAt(pos));
        due("voidAt(" + pos + ")", script.voidAt(pos), model.voidAt(pos));
    }

    private void ask(int which) {
        int a = position();
        int b = below(4) == 0 ? position() : Math.max(a, position());
        int x = balance();
        int times = maybeStrange(between(-1, 201));
        String block = "(" + a + ", " + b + ", " + x + ", " + times + ")";
        switch (which) {
            case 0 -> due("run" + block, script.run(a, b, x), model.run(a, b, x));
            case 1 -> due("repeat" + block, script.repeat(a, b, x, times), model.repeat(a, b, x, times));
            case 2 -> due("rest" + block, script.rest(a, b, x), model.rest(a, b, x));
            case 3 -> due("leastOpening" + block, script.leastOpening(a, b, x), model.leastOpening(a, b, x));
            case 4 -> due("openings" + block, script.openings(a, b, x), model.openings(a, b, x));
            case 5 -> due("liveCount" + block, script.liveCount(a, b), model.liveCount(a, b));
            default -> due("net" + block, script.net(a, b), model.net(a, b));
        }
    }
}
