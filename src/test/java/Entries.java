import java.util.ArrayList;
import java.util.List;

/**
 * Lists of entries as text: each entry is a letter (a, l, t, s for ADD, LIFT, TRIM, SET), an amount, and "v" behind it
 * if it is void.
 */
final class Entries {
    /** Every kind, a negative amount, and void entries both inside and at the end. */
    static final String FIVE = "a-1 l2 t3v s4 a5v";

    private Entries() {
    }

    static String text(int kind, int amount, boolean isVoid) {
        return "alts".charAt(kind) + Integer.toString(amount) + (isVoid ? "v" : "");
    }

    /** So many entries, no two neighbours alike: the kinds, the amounts (0 .. 4) and the states go round at odds. */
    static String many(int size) {
        List<String> entries = new ArrayList<>();
        for (int i = 0; i < size; i++) {
            entries.add(text(i % 4, i % 5, i % 3 == 2));
        }
        return String.join(" ", entries);
    }

    /** The calls that make the list out of an empty one. */
    static List<Call> calls(String entries) {
        List<Call> calls = new ArrayList<>();
        int pos = 0;
        for (String entry : entries.trim().split(" +")) {
            if (entry.isEmpty()) {
                continue;
            }
            boolean isVoid = entry.endsWith("v");
            int amount = Integer.parseInt(entry.substring(1, entry.length() - (isVoid ? 1 : 0)));
            calls.add(new Call("insert", pos, "alts".indexOf(entry.charAt(0)), amount));
            if (isVoid) {
                calls.add(new Call("setVoid", pos, pos + 1, 1));
            }
            pos++;
        }
        return calls;
    }
}
