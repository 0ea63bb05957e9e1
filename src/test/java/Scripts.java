/** Makes scripts for the tests and shows the entries of one as text. */
final class Scripts {
    private Scripts() {
    }

    /** Each entry is a letter (a, l, t, s for ADD, LIFT, TRIM, SET), an amount, and "v" behind it if it is void. */
    static LedgerScript of(int cap, int room, String entries) {
        LedgerScript script = new LedgerScript(cap, room);
        for (String entry : entries.split(" ")) {
            if (!entry.isEmpty()) {
                append(script, entry);
            }
        }
        return script;
    }

    static String show(LedgerScript script) {
        StringBuilder text = new StringBuilder();
        for (int i = 0; i < script.size(); i++) {
            text.append(i == 0 ? "" : " ").append("alts".charAt(script.kindAt(i))).append(script.amountAt(i));
            text.append(script.voidAt(i) == 1 ? "v" : "");
        }
        return text.toString();
    }

    private static void append(LedgerScript script, String entry) {
        int kind = "alts".indexOf(entry.charAt(0));
        boolean isVoid = entry.endsWith("v");
        int amount = Integer.parseInt(entry.substring(1, entry.length() - (isVoid ? 1 : 0)));
        int pos = script.size();
        if (script.insert(pos, kind, amount) != pos + 1) {
            throw new IllegalStateException("the test's own entry was refused: " + entry);
        }
        if (isVoid) {
            script.setVoid(pos, pos + 1, 1);
        }
    }
}
