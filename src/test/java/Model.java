import java.util.ArrayList;
import java.util.Arrays;
import java.util.Collections;
import java.util.List;
import java.util.stream.Collectors;

/**
 * A second version of the document, over library lists, that the program is held against. It is written another way
 * on purpose: a fault that both share would go unseen.
 */
final class Model {
    record Entry(int kind, int amount, boolean isVoid) {
        Entry marked(boolean flag) {
            return new Entry(kind, amount, flag);
        }

        int on(int x, int cap) {
            if (isVoid) {
                return x;
            }
            return switch (kind) {
                case 0 -> Math.max(0, Math.min(cap, x + amount));
                case 1 -> Math.max(x, amount);
                case 2 -> Math.min(x, amount);
                default -> amount;
            };
        }
    }

    private final int cap;
    private final int room;
    private final List<Entry> entries = new ArrayList<>();

    Model(int cap, int room) {
        this.cap = Math.max(4, Math.min(60, cap));
        this.room = Math.max(2, Math.min(40, room));
    }

    int cap() {
        return cap;
    }

    int size() {
        return entries.size();
    }

    int room() {
        return room;
    }

    String text() {
        return entries.stream().map(entry -> Entries.text(entry.kind(), entry.amount(), entry.isVoid()))
            .collect(Collectors.joining(" "));
    }

    private boolean bad(int from, int to) {
        return from < 0 || to < from || entries.size() < to;
    }

    private boolean outside(int x) {
        return x < 0 || cap < x;
    }

    private boolean nowhere(int pos) {
        return pos < 0 || entries.size() <= pos;
    }

    int insert(int pos, int kind, int amount) {
        if (entries.size() == room) {
            return -1;
        }
        if (pos < 0 || entries.size() < pos) {
            return -2;
        }
        if (kind < 0 || 3 < kind) {
            return -3;
        }
        if (amount > cap || amount < (kind == 0 ? -cap : 0)) {
            return -4;
        }
        entries.add(pos, new Entry(kind, amount, false));
        return entries.size();
    }

    int remove(int pos) {
        return nowhere(pos) ? -1 : entries.remove(pos).kind();
    }

    int move(int from, int to, int dest) {
        if (bad(from, to)) {
            return -1;
        }
        if (dest < 0 || entries.size() - (to - from) < dest) {
            return -2;
        }
        List<Entry> block = new ArrayList<>(entries.subList(from, to));
        entries.subList(from, to).clear();
        entries.addAll(dest, block);
        return block.size();
    }

    int copy(int from, int to, int dest) {
        if (bad(from, to)) {
            return -1;
        }
        if (dest < 0 || entries.size() < dest) {
            return -2;
        }
        if (entries.size() + (to - from) > room) {
            return -3;
        }
        entries.addAll(dest, new ArrayList<>(entries.subList(from, to)));
        return entries.size();
    }

    int reverse(int from, int to) {
        if (bad(from, to)) {
            return -1;
        }
        Collections.reverse(entries.subList(from, to));
        return to - from;
    }

    int setVoid(int from, int to, int flag) {
        if (bad(from, to)) {
            return -1;
        }
        int others = (int) entries.subList(from, to).stream().filter(entry -> entry.isVoid() != (flag != 0)).count();
        entries.subList(from, to).replaceAll(entry -> entry.marked(flag != 0));
        return others;
    }

    int kindAt(int pos) {
        return nowhere(pos) ? -1 : entries.get(pos).kind();
    }

    int amountAt(int pos) {
        return nowhere(pos) ? -1000 : entries.get(pos).amount();
    }

    int voidAt(int pos) {
        return nowhere(pos) ? -1 : entries.get(pos).isVoid() ? 1 : 0;
    }

    /** What the block makes of each balance, the balance being the index. */
    private int[] table(int from, int to) {
        int[] closings = new int[cap + 1];
        for (int x = 0; x <= cap; x++) {
            closings[x] = x;
            for (Entry entry : entries.subList(from, to)) {
                closings[x] = entry.on(closings[x], cap);
            }
        }
        return closings;
    }

    int run(int from, int to, int x) {
        return bad(from, to) ? -1 : outside(x) ? -2 : table(from, to)[x];
    }

    int repeat(int from, int to, int x, int times) {
        if (bad(from, to)) {
            return -1;
        }
        if (outside(x)) {
            return -2;
        }
        if (times < 0 || 200 < times) {
            return -3;
        }
        int[] closings = table(from, to);
        int balance = x;
        for (int left = times; left > 0; left--) {
            balance = closings[balance];
        }
        return balance;
    }

    int rest(int from, int to, int x) {
        return repeat(from, to, x, cap + 1);
    }

    int leastOpening(int from, int to, int y) {
        if (bad(from, to)) {
            return -1;
        }
        if (outside(y)) {
            return -2;
        }
        int[] closings = table(from, to);
        int least = -3;
        for (int x = cap; x >= 0; x--) {
            least = closings[x] >= y ? x : least;
        }
        return least;
    }

    int openings(int from, int to, int y) {
        if (bad(from, to)) {
            return -1;
        }
        return outside(y) ? -2 : (int) Arrays.stream(table(from, to)).filter(closing -> closing == y).count();
    }

    int liveCount(int from, int to) {
        return bad(from, to) ? -1 : (int) entries.subList(from, to).stream().filter(entry -> !entry.isVoid()).count();
    }

    int net(int from, int to) {
        if (bad(from, to)) {
            return -100000;
        }
        return entries.subList(from, to).stream().filter(entry -> !entry.isVoid() && entry.kind() == 0)
            .mapToInt(Entry::amount).sum();
    }
}
