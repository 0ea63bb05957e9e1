import java.util.ArrayList;
import java.util.List;

/**
 * "No query changes anything. A refused call changes nothing." Two objects are made alike, one of them gets the call, and
 * every later answer must be the same on both.
 */
public final class UnchangedTest {
    private static final Checks checks = new Checks();
    private static final String[] EDITS = {"insert", "remove", "move", "copy", "reverse", "setVoid"};
    private static final String[] QUERIES = {"cap", "size", "kindAt", "amountAt", "voidAt", "run", "repeat", "rest",
        "leastOpening", "openings", "liveCount", "net"};
    // So few that the calls before them and the later ones stay within the promised 512.
    private static final int MANY = 50;

    /** A way to make an object: its entries, and the calls after them. */
    private record State(int cap, int room, String entries, Call... history) {
        <T> T put(T target) {
            for (Call call : calls()) {
                call.on(target);
            }
            return target;
        }

        List<Call> calls() {
            List<Call> calls = new ArrayList<>(Entries.calls(entries));
            calls.addAll(List.of(history));
            return calls;
        }

        LedgerScript script() {
            return put(new LedgerScript(cap, room));
        }

        Model model() {
            return put(new Model(cap, room));
        }
    }

    private static final State[] STATES = {
        new State(20, 2, ""), new State(4, 2, "s3v"), new State(4, 2, "a-4 l3v"),
        new State(20, 10, Entries.FIVE), new State(20, 6, Entries.FIVE), new State(60, 5, "a-1 l2 t3v s4 a60v"),
        new State(60, 40, Entries.many(40)),
        // Entries that were taken out may still lie behind the end of the list.
        new State(20, 7, "a-1v l2 t3v s4 a5v s6v l7v", new Call("remove", 6), new Call("remove", 0)),
        new State(20, 2, "a-1v l2v", new Call("remove", 0), new Call("remove", 0))};

    public static void main(String[] args) {
        for (String name : EDITS) {
            checks.holds("A refused call changes nothing: " + name, () -> eachAlone(name, true));
            checks.holds("A refused call changes nothing: many of " + name, () -> manyInARow(name, true));
        }
        for (String name : QUERIES) {
            checks.holds("No query changes anything: " + name, () -> eachAlone(name, false));
            checks.holds("No query changes anything: many of " + name, () -> manyInARow(name, false));
        }
        checks.finish();
    }

    private static void eachAlone(String name, boolean onlyRefused) {
        for (State state : STATES) {
            for (List<Call> later : laterRuns(state)) {
                int[] want = answers(state, List.of(), later);
                for (Call call : calls(state, name, onlyRefused)) {
                    changeNothing(state, List.of(call), later, want);
                }
            }
        }
    }

    private static void manyInARow(String name, boolean onlyRefused) {
        for (State state : STATES) {
            List<Call> calls = calls(state, name, onlyRefused);
            for (List<Call> later : laterRuns(state)) {
                int[] want = answers(state, List.of(), later);
                for (int from = 0; from < calls.size(); from += MANY) {
                    changeNothing(state, calls.subList(from, Math.min(from + MANY, calls.size())), later, want);
                }
            }
        }
    }

    private static void changeNothing(State state, List<Call> calls, List<Call> later, int[] want) {
        int[] got = answers(state, calls, later);
        for (int i = 0; i < want.length; i++) {
            String told = got[i] == want[i] ? "" : state.calls() + ", then " + calls + ", later " + later.get(i);
            checks.due(told, got[i], want[i]);
        }
    }

    /** What the later calls answer behind the calls given. */
    private static int[] answers(State state, List<Call> calls, List<Call> later) {
        if (state.calls().size() + calls.size() + later.size() > Tried.MOST_CALLS) {
            throw new IllegalStateException("the test itself makes too many calls on one object");
        }
        LedgerScript script = state.script();
        for (Call call : calls) {
            call.on(script);
        }
        return later.stream().mapToInt(call -> call.on(script)).toArray();
    }

    /** Calls with arguments at and beyond every edge; of the edits only those that are refused, each for its reasons. */
    private static List<Call> calls(State state, String name, boolean onlyRefused) {
        List<Call> calls = Call.mixtures(name, choices(name, state.model().size(), state.model().cap()));
        if (onlyRefused) {
            calls.removeIf(call -> call.on(state.model()) >= 0);
        }
        return calls;
    }

    private static int[][] choices(String name, int size, int cap) {
        int[] places = {Edges.LOW, -1, 0, 1, size, size + 1, Edges.HIGH};
        int[] fewPlaces = {-1, 0, size, size + 1};
        int[] balances = {Edges.LOW, -1, 0, 1, cap, cap + 1, Edges.HIGH};
        return switch (name) {
            case "insert" -> new int[][] {places, {Edges.LOW, -1, 0, 2, 4, Edges.HIGH},
                {Edges.LOW, -cap - 1, -1, 0, cap + 1, Edges.HIGH}};
            case "remove", "kindAt", "amountAt", "voidAt" -> new int[][] {places};
            case "move", "copy" -> new int[][] {places, places, places};
            case "reverse", "liveCount", "net" -> new int[][] {places, places};
            case "setVoid" -> new int[][] {places, places, {Edges.LOW, 0, 1}};
            case "run", "rest", "leastOpening", "openings" -> new int[][] {places, places, balances};
            case "repeat" -> new int[][] {fewPlaces, fewPlaces, {-1, 0, 1, cap, cap + 1}, {-1, 0, 1, 200, 201}};
            default -> new int[][] {};
        };
    }

    private static List<List<Call>> laterRuns(State state) {
        int size = state.model().size();
        int cap = state.model().cap();
        return List.of(laterQueries(size, cap), laterEdits(size, state.model().room()));
    }

    private static void look(List<Call> calls, int size) {
        calls.add(new Call("size"));
        for (int pos = -1; pos <= size; pos++) {
            calls.add(new Call("kindAt", pos));
            calls.add(new Call("amountAt", pos));
            calls.add(new Call("voidAt", pos));
        }
    }

    private static List<Call> laterQueries(int size, int cap) {
        List<Call> calls = new ArrayList<>();
        calls.add(new Call("cap"));
        look(calls, size);
        for (int balance = 0; balance <= cap; balance++) {
            calls.add(new Call("run", 0, size, balance));
            calls.add(new Call("openings", 0, size, balance));
            calls.add(new Call("leastOpening", size / 2, size, balance));
        }
        for (int pos = 0; pos <= size; pos++) {
            calls.add(new Call("net", 0, pos));
        }
        calls.add(new Call("liveCount", 0, size));
        calls.add(new Call("repeat", 0, size, 1, 3));
        calls.add(new Call("rest", 0, size, 1));
        calls.add(new Call("run", 0, size, cap + 1));
        calls.add(new Call("run", 0, size + 1, 0));
        return calls;
    }

    /** Up to the full list, round about in it, and down to the empty one. */
    private static List<Call> laterEdits(int size, int room) {
        List<Call> calls = new ArrayList<>();
        calls.add(new Call("copy", size, size, 0));
        for (int length = size; length <= room; length++) {
            calls.add(new Call("insert", length / 2, length % 4, length % 4));
        }
        look(calls, room);
        calls.add(new Call("reverse", 0, room));
        calls.add(new Call("setVoid", 1, room, 1));
        calls.add(new Call("move", 0, 1, room - 1));
        calls.add(new Call("remove", 0));
        calls.add(new Call("copy", room - 2, room - 1, 0));
        calls.add(new Call("copy", 0, 1, 0));
        look(calls, room);
        for (int length = room; length >= 0; length--) {
            calls.add(new Call("remove", 0));
        }
        calls.add(new Call("insert", 0, 0, 1));
        look(calls, 1);
        return calls;
    }
}
