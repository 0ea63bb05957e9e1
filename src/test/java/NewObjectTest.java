/** Promises 1 to 3: a new object, cap, size. */
public final class NewObjectTest {
    private static final Checks checks = new Checks();

    public static void main(String[] args) {
        checks.holds("1: cap: below 4 becomes 4", NewObjectTest::smallCaps);
        checks.holds("1: cap: above 60 becomes 60", NewObjectTest::largeCaps);
        checks.holds("1: cap: 4 .. 60 stays as it is", NewObjectTest::capsBetween);
        checks.holds("1: room: below 2 becomes 2", NewObjectTest::smallRooms);
        checks.holds("1: room: above 40 becomes 40", NewObjectTest::largeRooms);
        checks.holds("1: room (the most entries that the list can hold)", NewObjectTest::roomsBetween);
        checks.holds("1: cap and room are clamped apart from each other", NewObjectTest::capAndRoomAreApart);
        checks.holds("1: The list is empty at first", NewObjectTest::listIsEmptyAtFirst);
        checks.holds("1: a new object shares nothing with another one", NewObjectTest::objectsAreApart);
        checks.holds("2: The greatest balance, as clamped", NewObjectTest::capIsTheGreatestBalance);
        checks.holds("3: How many entries there are", NewObjectTest::sizeFollowsTheEntries);
        checks.holds("3: How many entries there are, from none to room", NewObjectTest::sizeFromEmptyToFull);
        checks.finish();
    }

    private static void smallCaps() {
        for (int cap : new int[] {Edges.LOW, Edges.LOW + 1, 4 - 65536, 5 - 256, -5, -1, 0, 1, 2, 3}) {
            capIs(cap, 4);
        }
        capIs(4, 4);
        capIs(5, 5);
    }

    private static void largeCaps() {
        for (int cap : new int[] {61, 62, 64, 127, 128, 256 + 5, 65536 + 5, Edges.HIGH - 1, Edges.HIGH}) {
            capIs(cap, 60);
        }
        capIs(60, 60);
        capIs(59, 59);
    }

    private static void capsBetween() {
        for (int cap = 4; cap <= 60; cap++) {
            capIs(cap, cap);
        }
    }

    private static void capIs(int given, int want) {
        for (int room : new int[] {Edges.LOW, 2, 10, 40, Edges.HIGH}) {
            new Tried(checks, given, room).due(want, "cap");
        }
    }

    private static void smallRooms() {
        for (int room : new int[] {Edges.LOW, Edges.LOW + 1, 3 - 65536, 3 - 256, -3, -1, 0, 1}) {
            roomIs(room, 2);
        }
        roomIs(2, 2);
        roomIs(3, 3);
    }

    private static void largeRooms() {
        for (int room : new int[] {41, 42, 64, 127, 128, 256 + 3, 65536 + 3, Edges.HIGH - 1, Edges.HIGH}) {
            roomIs(room, 40);
        }
        roomIs(40, 40);
        roomIs(39, 39);
    }

    private static void roomsBetween() {
        for (int room = 2; room <= 40; room++) {
            roomIs(room, room);
        }
    }

    private static void roomIs(int given, int want) {
        for (int cap : new int[] {Edges.LOW, 4, 20, 60, Edges.HIGH}) {
            Tried tried = new Tried(checks, cap, given);
            for (int size = 1; size <= want; size++) {
                tried.due(size, "insert", 0, 0, 0);
            }
            tried.due(-1, "insert", 0, 0, 0);
            tried.due(-3, "copy", 0, 1, 0);
            tried.due(want, "size");
        }
    }

    private static void capAndRoomAreApart() {
        int[][] given = {{Edges.LOW, Edges.HIGH}, {Edges.HIGH, Edges.LOW}, {3, 41}, {61, 1}, {2, 4}, {40, 60}};
        int[][] want = {{4, 40}, {60, 2}, {4, 40}, {60, 2}, {4, 4}, {40, 40}};
        for (int i = 0; i < given.length; i++) {
            Tried tried = new Tried(checks, given[i][0], given[i][1]);
            tried.due(want[i][0], "cap");
            for (int size = 1; size <= want[i][1]; size++) {
                tried.due(size, "insert", 0, 3, want[i][0]);
            }
            tried.due(-1, "insert", 0, 3, want[i][0]);
            tried.due(want[i][0], "cap");
        }
    }

    private static void listIsEmptyAtFirst() {
        for (int[] given : new int[][] {{Edges.LOW, Edges.LOW}, {4, 2}, {20, 12}, {60, 40}, {Edges.HIGH, Edges.HIGH}}) {
            Tried tried = new Tried(checks, given[0], given[1]);
            tried.due(0, "size");
            for (int pos : new int[] {-1, 0, 1}) {
                tried.due(-1, "kindAt", pos);
                tried.due(-1000, "amountAt", pos);
                tried.due(-1, "voidAt", pos);
                tried.due(-1, "remove", pos);
            }
            tried.due(0, "liveCount", 0, 0);
            tried.due(-1, "liveCount", 0, 1);
            tried.due(0, "net", 0, 0);
            tried.due(-100000, "net", 0, 1);
            tried.due(3, "run", 0, 0, 3);
            tried.due(-1, "run", 0, 1, 3);
            tried.due(3, "repeat", 0, 0, 3, 200);
            tried.due(3, "rest", 0, 0, 3);
            tried.due(3, "leastOpening", 0, 0, 3);
            tried.due(1, "openings", 0, 0, 3);
            tried.due(0, "move", 0, 0, 0);
            tried.due(0, "copy", 0, 0, 0);
            tried.due(0, "reverse", 0, 0);
            tried.due(0, "setVoid", 0, 0, 1);
            tried.due(0, "size");
        }
    }

    private static void objectsAreApart() {
        Tried one = Tried.of(checks, 20, 10, "a1 s9v");
        Tried other = Tried.of(checks, 30, 5, "l2 t3");
        one.dueEntries("a1 s9v");
        other.dueEntries("l2 t3");
        other.same("setVoid", 0, 2, 1);
        other.same("remove", 0);
        one.dueEntries("a1 s9v");
        one.due(20, "cap");
        other.due(30, "cap");
    }

    private static void capIsTheGreatestBalance() {
        for (int given : new int[] {Edges.LOW, 3, 4, 5, 33, 59, 60, 61, Edges.HIGH}) {
            Tried tried = new Tried(checks, given, 10);
            int cap = tried.same("cap");
            tried.due(cap - 1, "run", 0, 0, cap - 1);
            tried.due(cap, "run", 0, 0, cap);
            tried.due(-2, "run", 0, 0, cap + 1);
            tried.due(1, "insert", 0, LedgerScript.ADD, cap);
            tried.due(cap, "run", 0, 1, 1);
            tried.due(-4, "insert", 0, LedgerScript.SET, cap + 1);
            tried.due(cap, "cap");
        }
    }

    private static void sizeFollowsTheEntries() {
        Tried tried = Tried.of(checks, 20, 10, "a1 l2 t3v");
        tried.due(3, "size");
        tried.same("remove", 0);
        tried.due(2, "size");
        tried.same("copy", 0, 2, 1);
        tried.due(4, "size");
        tried.same("move", 0, 2, 2);
        tried.due(4, "size");
        tried.same("reverse", 0, 4);
        tried.due(4, "size");
        tried.same("setVoid", 0, 4, 1);
        tried.due(4, "size");
        tried.same("insert", 4, 3, 0);
        tried.due(5, "size");
    }

    private static void sizeFromEmptyToFull() {
        for (int room : new int[] {2, 3, 39, 40}) {
            Tried tried = new Tried(checks, 20, room);
            for (int size = 0; size < room; size++) {
                tried.due(size, "size");
                tried.same("insert", size, 1, 2);
            }
            tried.due(room, "size");
            tried.due(-1, "insert", 0, 1, 2);
            tried.due(room, "size");
            for (int size = room - 1; size >= 0; size--) {
                tried.same("remove", size);
                tried.due(size, "size");
            }
            tried.due(-1, "remove", 0);
            tried.due(0, "size");
        }
    }
}
