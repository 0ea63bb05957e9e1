import java.util.Arrays;
import java.util.List;
import java.util.function.Consumer;

/** What the document says of every call, under "What it is" and "Terms". */
public final class TermsTest {
    private static final Checks checks = new Checks();

    /** One call of each method, none of them refused on a list of two entries or more that isn't full. */
    private static final List<Call> EVERY_METHOD = List.of(new Call("cap"), new Call("size"), new Call("insert", 1, 0, -3),
        new Call("remove", 1), new Call("move", 0, 1, 1), new Call("copy", 0, 1, 1), new Call("remove", 0),
        new Call("reverse", 0, 2), new Call("setVoid", 0, 2, 1), new Call("setVoid", 1, 2, 0), new Call("kindAt", 1),
        new Call("amountAt", 1), new Call("voidAt", 1), new Call("run", 0, 2, 3), new Call("repeat", 0, 2, 3, 200),
        new Call("rest", 0, 2, 3), new Call("leastOpening", 0, 2, 3), new Call("openings", 0, 2, 3),
        new Call("liveCount", 0, 2), new Call("net", 0, 2));

    private static final int[] CAPS = {4, 5, 20, 59, 60};
    private static final int[][] GIVEN_AND_CLAMPED = {{Edges.LOW, 4}, {3, 4}, {4, 4}, {5, 5}, {59, 59}, {60, 60}, {61, 60},
        {Edges.HIGH, 60}};

    public static void main(String[] args) {
        checks.holds("at most 512 calls", TermsTest::callsUpToTheLast);
        checks.holds("at most 512 calls (of one method)", TermsTest::callsOfOneMethodUpToTheLast);
        checks.holds("what later calls answer is free (but they end)", TermsTest::laterCallsEnd);
        checks.holds("the entries stand at positions 0 .. size()-1, in order, without gaps", TermsTest::positions);
        checks.holds("a GOOD block: 0 <= from", () -> ofEveryBlock(Blocks::fromStartsAtZero));
        checks.holds("a GOOD block: from <= to", () -> ofEveryBlock(Blocks::fromIsAtMostTo));
        checks.holds("a GOOD block: to <= size()", () -> ofEveryBlock(Blocks::toIsAtMostSize));
        checks.holds("it may be empty (from == to)", TermsTest::emptyBlocks);
        checks.holds("Every other pair is a bad block", () -> ofEveryBlock(Blocks::badAreRefused));
        checks.holds("ADD: x + amount", TermsTest::addWithinTheEdges);
        checks.holds("ADD: where this is below 0 it becomes 0", TermsTest::addBelowZero);
        checks.holds("ADD: where it is above cap it becomes cap", TermsTest::addAboveCap);
        checks.holds("LIFT: the larger of x and amount", TermsTest::lift);
        checks.holds("TRIM: the smaller of x and amount", TermsTest::trim);
        checks.holds("SET: amount", TermsTest::set);
        checks.holds("A void entry leaves x as it is, whatever its kind", TermsTest::voidEntries);
        checks.holds("Amounts: for ADD -cap .. cap", TermsTest::amountsOfAdd);
        checks.holds("Amounts: for LIFT, TRIM and SET 0 .. cap", TermsTest::amountsOfTheOthers);
        checks.holds("the second to what came out, and so on to the last", TermsTest::runningKeepsToTheEdges);
        checks.holds("An empty block closes at x", TermsTest::emptyBlocksCloseAtX);
        checks.holds("Nothing overflows: any arguments", TermsTest::anyArguments);
        checks.holds("Nothing overflows: all numbers stay below 1000000", TermsTest::greatestNumbers);
        checks.finish();
    }

    private static void ofEveryBlock(Consumer<Blocks> test) {
        for (Blocks blocks : Blocks.ofAll(checks)) {
            test.accept(blocks);
        }
    }

    private static void callsUpToTheLast() {
        for (Call last : EVERY_METHOD) {
            Tried tried = Tried.of(checks, 20, 12, "a7 t10 l4v s9");
            for (int i = 0; tried.callsMade() < Tried.MOST_CALLS - 2; i++) {
                tried.same(EVERY_METHOD.get(i % EVERY_METHOD.size()));
            }
            tried.same(last);
            tried.same(last);
            checks.due("the number of calls", tried.callsMade(), 512);
        }
    }

    private static void callsOfOneMethodUpToTheLast() {
        for (Call call : EVERY_METHOD) {
            Tried tried = Tried.of(checks, 20, 12, "a7 t10 l4v s9");
            while (tried.callsMade() < Tried.MOST_CALLS) {
                tried.same(call);
            }
        }
        Tried grown = new Tried(checks, 60, 40);
        for (int calls = 2; calls <= 512; calls += 2) {
            grown.same("insert", 0, 0, 1);
            grown.due(Math.min(calls / 2, 40), "size");
        }
    }

    private static void laterCallsEnd() {
        for (int room : new int[] {2, 12, 40}) {
            Tried tried = Tried.of(checks, 20, room, "a7 t10v");
            while (tried.callsMade() < Tried.MOST_CALLS) {
                tried.same("cap");
            }
            for (int i = 0; i < 5000; i++) {
                tried.anyAnswer(EVERY_METHOD.get(i * 7 % EVERY_METHOD.size()));
                tried.anyAnswer(new Call("insert", i % 41, i % 4, i % 5));
            }
        }
    }

    private static void positions() {
        Tried tried = new Tried(checks, 20, 10);
        tried.dueEntries("");
        tried.same("insert", 0, 3, 4);
        tried.dueEntries("s4");
        tried.same("insert", 0, 0, -1);
        tried.dueEntries("a-1 s4");
        tried.same("insert", 1, 2, 3);
        tried.dueEntries("a-1 t3 s4");
        tried.same("copy", 0, 3, 2);
        tried.dueEntries("a-1 t3 a-1 t3 s4 s4");
        tried.same("setVoid", 1, 3, 1);
        tried.dueEntries("a-1 t3v a-1v t3 s4 s4");
        tried.same("remove", 3);
        tried.dueEntries("a-1 t3v a-1v s4 s4");
        tried.same("move", 0, 2, 3);
        tried.dueEntries("a-1v s4 s4 a-1 t3v");
        tried.same("reverse", 1, 5);
        tried.dueEntries("a-1v t3v a-1 s4 s4");
        tried.same("remove", 4);
        tried.same("remove", 0);
        tried.dueEntries("t3v a-1 s4");
    }

    private static void emptyBlocks() {
        for (int size : new int[] {0, 1, 5, 10}) {
            for (int at = 0; at <= size; at++) {
                Tried tried = Tried.of(checks, 20, 10, Entries.many(size));
                tried.due(0, "move", at, at, size);
                tried.due(size, "copy", at, at, 0);
                tried.due(0, "reverse", at, at);
                tried.due(0, "setVoid", at, at, 1);
                tried.due(0, "setVoid", at, at, 0);
                tried.due(17, "run", at, at, 17);
                tried.due(17, "repeat", at, at, 17, 200);
                tried.due(17, "rest", at, at, 17);
                tried.due(17, "leastOpening", at, at, 17);
                tried.due(1, "openings", at, at, 17);
                tried.due(0, "liveCount", at, at);
                tried.due(0, "net", at, at);
                tried.dueEntries(Entries.many(size));
            }
        }
    }

    private static void closes(int cap, String entries, int x, int want) {
        Tried tried = Tried.of(checks, cap, 40, entries);
        tried.due(want, "run", 0, tried.size(), x);
    }

    private static void addWithinTheEdges() {
        for (int cap : CAPS) {
            for (int amount = -cap; amount <= cap; amount++) {
                Tried tried = Tried.of(checks, cap, 2, "a" + amount);
                for (int x = Math.max(0, -amount); x <= Math.min(cap, cap - amount); x++) {
                    tried.due(x + amount, "run", 0, 1, x);
                }
            }
        }
    }

    private static void addBelowZero() {
        for (int cap : CAPS) {
            closes(cap, "a-3", 4, 1);
            closes(cap, "a-3", 3, 0);
            closes(cap, "a-3", 2, 0);
            closes(cap, "a-3", 0, 0);
            closes(cap, "a-1", 0, 0);
            closes(cap, "a" + -cap, cap, 0);
            closes(cap, "a" + -cap, cap - 1, 0);
            closes(cap, "a" + -cap, 0, 0);
            closes(cap, "a" + (1 - cap), cap, 1);
            for (int amount = -cap; amount < 0; amount++) {
                Tried tried = Tried.of(checks, cap, 2, "a" + amount);
                for (int x = 0; x <= -amount; x++) {
                    tried.due(0, "run", 0, 1, x);
                }
            }
        }
    }

    private static void addAboveCap() {
        for (int cap : CAPS) {
            closes(cap, "a3", cap - 4, cap - 1);
            closes(cap, "a3", cap - 3, cap);
            closes(cap, "a3", cap - 2, cap);
            closes(cap, "a3", cap, cap);
            closes(cap, "a1", cap, cap);
            closes(cap, "a" + cap, 0, cap);
            closes(cap, "a" + cap, 1, cap);
            closes(cap, "a" + cap, cap, cap);
            closes(cap, "a" + (cap - 1), 0, cap - 1);
            for (int amount = 1; amount <= cap; amount++) {
                Tried tried = Tried.of(checks, cap, 2, "a" + amount);
                for (int x = cap - amount; x <= cap; x++) {
                    tried.due(cap, "run", 0, 1, x);
                }
            }
        }
    }

    private static void lift() {
        for (int cap : CAPS) {
            for (int amount = 0; amount <= cap; amount++) {
                Tried tried = Tried.of(checks, cap, 2, "l" + amount);
                for (int x = 0; x <= cap; x++) {
                    tried.due(x < amount ? amount : x, "run", 0, 1, x);
                }
            }
        }
    }

    private static void trim() {
        for (int cap : CAPS) {
            for (int amount = 0; amount <= cap; amount++) {
                Tried tried = Tried.of(checks, cap, 2, "t" + amount);
                for (int x = 0; x <= cap; x++) {
                    tried.due(x > amount ? amount : x, "run", 0, 1, x);
                }
            }
        }
    }

    private static void set() {
        for (int cap : CAPS) {
            for (int amount = 0; amount <= cap; amount++) {
                Tried tried = Tried.of(checks, cap, 2, "s" + amount);
                for (int x = 0; x <= cap; x++) {
                    tried.due(amount, "run", 0, 1, x);
                }
            }
        }
    }

    private static void voidEntries() {
        for (int cap : new int[] {4, 20, 60}) {
            for (int kind = 0; kind < 4; kind++) {
                for (int amount : new int[] {kind == 0 ? -cap : 0, kind == 0 ? -1 : 1, 2, cap - 1, cap}) {
                    String isVoid = Entries.text(kind, amount, true);
                    Tried tried = Tried.of(checks, cap, 40, isVoid + " a1 " + isVoid);
                    for (int x = 0; x <= cap; x++) {
                        tried.due(x, "run", 0, 1, x);
                        tried.due(x, "repeat", 0, 1, x, 200);
                        tried.due(x, "rest", 2, 3, x);
                        tried.due(Math.min(x + 1, cap), "run", 0, 3, x);
                        tried.due(1, "openings", 0, 1, x);
                        tried.due(x, "leastOpening", 0, 1, x);
                    }
                }
            }
        }
    }

    private static void amountsOfAdd() {
        for (int[] caps : GIVEN_AND_CLAMPED) {
            Tried tried = new Tried(checks, caps[0], 40);
            int cap = caps[1];
            tried.due(1, "insert", 0, 0, -cap);
            tried.due(2, "insert", 0, 0, 1 - cap);
            tried.due(-4, "insert", 0, 0, -1 - cap);
            tried.due(3, "insert", 0, 0, cap);
            tried.due(4, "insert", 0, 0, cap - 1);
            tried.due(-4, "insert", 0, 0, cap + 1);
            tried.due(-4, "insert", 0, 0, Edges.LOW);
            tried.due(-4, "insert", 0, 0, Edges.HIGH);
            tried.sameList();
        }
    }

    private static void amountsOfTheOthers() {
        for (int[] caps : GIVEN_AND_CLAMPED) {
            for (int kind = 1; kind < 4; kind++) {
                Tried tried = new Tried(checks, caps[0], 40);
                int cap = caps[1];
                tried.due(1, "insert", 0, kind, 0);
                tried.due(2, "insert", 0, kind, 1);
                tried.due(-4, "insert", 0, kind, -1);
                tried.due(3, "insert", 0, kind, cap);
                tried.due(4, "insert", 0, kind, cap - 1);
                tried.due(-4, "insert", 0, kind, cap + 1);
                tried.due(-4, "insert", 0, kind, -cap);
                tried.due(-4, "insert", 0, kind, Edges.LOW);
                tried.due(-4, "insert", 0, kind, Edges.HIGH);
                tried.sameList();
            }
        }
    }

    /** The balance is brought back to an edge behind each entry, not only behind the last one. */
    private static void runningKeepsToTheEdges() {
        closes(20, "a15 a-12", 10, 8);
        closes(20, "a-15 a12", 10, 12);
        closes(60, "a60 a-60 a60 a-1", 60, 59);
        closes(4, "a-4 a-4 a1", 4, 1);
        closes(20, "l20 a1 t19 a-20 a-1 s3", 0, 3);
        closes(60, "a60 ".repeat(39) + "a-1", 0, 59);
        closes(60, "a-60 ".repeat(39) + "a1", 60, 1);
    }

    private static void emptyBlocksCloseAtX() {
        for (int size : new int[] {0, 1, 2, 5}) {
            for (int cap : new int[] {4, 60}) {
                Tried tried = Tried.of(checks, cap, 5, Entries.many(size));
                for (int at = 0; at <= size; at++) {
                    for (int x = 0; x <= cap; x++) {
                        tried.due(x, "run", at, at, x);
                    }
                }
            }
        }
    }

    /** Every method with every mixture of arguments from the edges, on an empty list, on some, and on full ones. */
    private static void anyArguments() {
        for (int[] list : new int[][] {{0, 2}, {1, 2}, {2, 2}, {5, 7}, {40, 40}}) {
            int size = list[0];
            int[] args = {Edges.LOW, Edges.LOW + 1, -1, 0, 1, size, size + 1, 41, 61, 201, Edges.HIGH - 1, Edges.HIGH};
            for (Call call : EVERY_METHOD) {
                int[][] choices = new int[call.args().length][];
                Arrays.fill(choices, args);
                answerAll(list, Call.mixtures(call.name(), choices));
            }
        }
    }

    private static void answerAll(int[] list, List<Call> calls) {
        Tried tried = null;
        for (Call call : calls) {
            // A new object before the promised calls run out.
            if (tried == null || tried.callsMade() == Tried.MOST_CALLS) {
                tried = Tried.of(checks, 20, list[1], Entries.many(list[0]));
            }
            int answer = tried.same(call);
            checks.dueTrue("below 1000000", answer > -1000000 && answer < 1000000);
        }
    }

    private static void greatestNumbers() {
        Tried most = Tried.of(checks, 60, 40, "a60 ".repeat(40));
        most.due(2400, "net", 0, 40);
        most.due(60, "run", 0, 40, 60);
        most.due(60, "repeat", 0, 40, 60, 200);
        most.due(60, "rest", 0, 40, 60);
        most.due(61, "openings", 0, 40, 60);
        most.due(0, "leastOpening", 0, 40, 60);
        most.due(40, "liveCount", 0, 40);
        Tried least = Tried.of(checks, 60, 40, "a-60 ".repeat(40));
        least.due(-2400, "net", 0, 40);
        least.due(0, "run", 0, 40, 0);
        least.due(0, "repeat", 0, 40, 60, 200);
        least.due(0, "rest", 0, 40, 60);
        least.due(61, "openings", 0, 40, 0);
        least.due(-3, "leastOpening", 0, 40, 1);
        least.due(-1000, "amountAt", 40);
        least.due(-100000, "net", 0, 41);
    }
}
