/** The example of README.md, call by call: a reader who tries it must get the answers that stand there. */
public final class ReadmeTest {
    private static final Checks checks = new Checks();

    public static void main(String[] args) {
        checks.holds("README.md: Use", ReadmeTest::example);
        checks.finish();
    }

    private static void example() {
        LedgerScript script = new LedgerScript(20, 12);
        checks.due("insert(0, ADD, 7)", script.insert(0, LedgerScript.ADD, 7), 1);
        checks.due("insert(1, TRIM, 10)", script.insert(1, LedgerScript.TRIM, 10), 2);
        checks.due("run(0, 2, 5)", script.run(0, 2, 5), 10);
        checks.due("reverse(0, 2)", script.reverse(0, 2), 2);
        checks.due("run(0, 2, 5)", script.run(0, 2, 5), 12);
        checks.due("setVoid(0, 1, 1)", script.setVoid(0, 1, 1), 1);
        checks.due("leastOpening(0, 2, 20)", script.leastOpening(0, 2, 20), 13);
        checks.due("copy(0, 2, 1)", script.copy(0, 2, 1), 4);
        checks.due("net(0, 4)", script.net(0, 4), 14);
        checks.due("run(0, 5, 5)", script.run(0, 5, 5), -1);
    }
}
