import java.util.ArrayList;
import java.util.List;

/** A script under test with the model beside it: every call is made on both, and the answer held against what is due. */
final class Tried {
    /** So many calls the document promises for one object. */
    static final int MOST_CALLS = 512;
    private static final int MOST_TOLD = 12;

    private final Checks checks;
    private final LedgerScript script;
    private final Model model;
    private final String made;
    private final List<Call> story = new ArrayList<>();

    Tried(Checks checks, int cap, int room) {
        this.checks = checks;
        script = new LedgerScript(cap, room);
        model = new Model(cap, room);
        made = "LedgerScript(" + cap + ", " + room + ")";
    }

    static Tried of(Checks checks, int cap, int room, String entries) {
        Tried tried = new Tried(checks, cap, room);
        for (Call call : Entries.calls(entries)) {
            tried.same(call);
        }
        return tried;
    }

    int callsMade() {
        return story.size();
    }

    int cap() {
        return model.cap();
    }

    int room() {
        return model.room();
    }

    int size() {
        return model.size();
    }

    /** The model must agree, so that a wrong number in the test, or a fault of the model, shows as well. */
    void due(int want, String name, int... args) {
        Call call = new Call(name, args);
        checks.due("the model's " + call, call.on(model), want);
        hold(call, want);
    }

    int same(String name, int... args) {
        return same(new Call(name, args));
    }

    int same(Call call) {
        int want = call.on(model);
        hold(call, want);
        return want;
    }

    void sameList() {
        same("size");
        for (int pos = -1; pos <= model.size(); pos++) {
            same("kindAt", pos);
            same("amountAt", pos);
            same("voidAt", pos);
        }
    }

    void dueEntries(String want) {
        checks.dueText("the model's list", model.text(), want);
        sameList();
    }

    /** For calls beyond the promised ones: the answer is free, but there must be one. */
    void anyAnswer(Call call) {
        call.on(script);
    }

    private void hold(Call call, int want) {
        if (story.size() == MOST_CALLS) {
            throw new IllegalStateException("the test itself makes more than " + MOST_CALLS + " calls on one object");
        }
        story.add(call);
        int got = call.on(script);
        checks.due(got == want ? "" : told(), got, want);
    }

    private String told() {
        int skipped = Math.max(0, story.size() - MOST_TOLD);
        String gap = skipped == 0 ? ": " : ": .. " + skipped + " calls more .. ";
        return made + gap + story.subList(skipped, story.size());
    }
}
