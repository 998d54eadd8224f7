import java.util.ArrayList;
import java.util.HashMap;
import java.util.LinkedList;
import java.util.List;
import java.util.Map;

/**
 * The document once more, written apart from the class and in another manner: TASKS are objects that know one
 * another, TREES are read by descent, and what is asked goes on from a deep copy. A test holds the two side by side.
 */
final class Model {
    private static final long NO = Long.MIN_VALUE;

    private static final class Task {
        int number, work, left, worth, state, mark;
        Task in, cause;
        final List<Task> members = new ArrayList<>();

        boolean ended() {
            return state >= 3;
        }

        int span() {
            int most = 0;
            for (Task each : members) {
                most = Math.max(most, each.span());
            }
            return work + most;
        }

        int sum() {
            int sum = work;
            for (Task each : members) {
                sum += each.sum();
            }
            return sum;
        }

        int depth() {
            return in == null ? 0 : 1 + in.depth();
        }

        /** All below, by numbers, as a TREE is numbered as it is read. */
        void below(List<Task> into) {
            for (Task each : members) {
                into.add(each);
                each.below(into);
            }
        }
    }

    private static final class Hand {
        final LinkedList<Task> row = new LinkedList<>(); // the near end is the last
        Task task;
        int idle, stole;
    }

    private static final class State {
        final List<Task> tasks = new ArrayList<>();
        final List<Hand> hands = new ArrayList<>();
        final List<int[]> entries = new ArrayList<>(); // all there ever were
        List<int[]> seen = new ArrayList<>(), plan = new ArrayList<>(), book = new ArrayList<>();
        int seed = 1, round = 0;

        State copy() {
            State c = new State();
            Map<Task, Task> twin = new HashMap<>();
            twin.put(null, null);
            for (Task t : tasks) {
                Task u = new Task();
                u.number = t.number;
                u.work = t.work;
                u.left = t.left;
                u.worth = t.worth;
                u.state = t.state;
                u.mark = t.mark;
                twin.put(t, u);
                c.tasks.add(u);
            }
            for (Task t : tasks) {
                Task u = twin.get(t);
                u.in = twin.get(t.in);
                u.cause = twin.get(t.cause);
                for (Task m : t.members) {
                    u.members.add(twin.get(m));
                }
            }
            for (Hand h : hands) {
                Hand g = new Hand();
                g.task = twin.get(h.task);
                g.idle = h.idle;
                g.stole = h.stole;
                for (Task t : h.row) {
                    g.row.add(twin.get(t));
                }
                c.hands.add(g);
            }
            c.entries.addAll(entries);
            c.seen.addAll(seen);
            c.plan.addAll(plan);
            c.book.addAll(book);
            c.seed = seed;
            c.round = round;
            return c;
        }

        void hands(int n) {
            List<Task> homeless = new ArrayList<>();
            while (hands.size() > n) {
                Hand gone = hands.remove(n);
                if (gone.task != null) {
                    gone.task.state = 0;
                    homeless.add(gone.task);
                }
                homeless.addAll(gone.row);
            }
            hands.get(0).row.addAll(homeless);
            while (hands.size() < n) {
                hands.add(new Hand());
            }
        }

        void note(int hand, int what, Task t) {
            entries.add(new int[] {round, hand, what, t.number});
        }

        int draw(int below) {
            seed = (int) (seed * 1103515245L + 12345L);
            return (int) ((seed & 0xffffffffL) / 65536L) % below;
        }

        void rounds(int n) {
            for (int k = 0; k < n; k++) {
                for (int h = 0; h < hands.size(); h++) {
                    turn(h, hands.get(h));
                }
                round++;
            }
        }

        void turn(int h, Hand hand) {
            if (hand.task != null) {
                Task t = hand.task;
                if (--t.left == 0) {
                    hand.task = null;
                    through(t, h, hand);
                }
                return;
            }
            if (!hand.row.isEmpty()) {
                hand.task = hand.row.removeLast();
                note(h, 0, hand.task);
            } else {
                List<Hand> others = new ArrayList<>();
                for (Hand other : hands) {
                    if (other != hand && !other.row.isEmpty()) {
                        others.add(other);
                    }
                }
                if (others.isEmpty()) {
                    hand.idle++;
                    return;
                }
                hand.task = others.get(draw(others.size())).row.removeFirst();
                hand.stole++;
                note(h, 1, hand.task);
            }
            hand.task.state = 1;
        }

        void through(Task t, int h, Hand hand) {
            List<Task> open = new ArrayList<>();
            for (Task m : t.members) {
                if (!m.ended()) {
                    open.add(m);
                }
            }
            if (t.mark == 1) {
                end(t, 4, h);
            } else if (open.isEmpty()) {
                done(t, h);
            } else {
                t.state = 2;
                hand.row.addAll(open);
            }
        }

        void done(Task t, int h) {
            t.worth = t.work;
            for (Task m : t.members) {
                t.worth += m.state == 3 ? m.worth : 0;
            }
            end(t, 3, h);
        }

        void end(Task t, int state, int h) {
            t.state = state;
            note(h, state, t);
            upward(t);
        }

        void upward(Task t) {
            Task p = t.in;
            if (p == null || p.state != 2) {
                return;
            }
            if (t.state == 4 && p.mark != 2) {
                List<Task> below = new ArrayList<>();
                p.below(below);
                strike(below);
                p.cause = t;
                end(p, 4, -5);
                return;
            }
            for (Task m : p.members) {
                if (!m.ended()) {
                    return;
                }
            }
            done(p, -5);
        }

        int strike(List<Task> all) {
            int many = 0;
            for (Task t : all) {
                if (t.ended()) {
                    continue;
                }
                for (Hand h : hands) {
                    h.row.remove(t);
                    if (h.task == t) {
                        h.task = null;
                    }
                }
                t.state = 5;
                note(-5, 5, t);
                many++;
            }
            return many;
        }

        int cancel(Task t) {
            List<Task> all = new ArrayList<>();
            all.add(t);
            t.below(all);
            int many = strike(all);
            upward(t);
            return many;
        }

        boolean over() {
            for (Task t : tasks) {
                if (t.state == 1 || t.state == 2 || t.state == 0 && rowOf(t) >= 0) {
                    return false;
                }
            }
            return true;
        }

        int rowOf(Task t) {
            for (int h = 0; h < hands.size(); h++) {
                if (hands.get(h).row.contains(t)) {
                    return h;
                }
            }
            return -5;
        }

        int handOf(Task t) {
            for (int h = 0; h < hands.size(); h++) {
                if (hands.get(h).task == t) {
                    return h;
                }
            }
            return -5;
        }

        int till() {
            State c = copy();
            for (int k = 0; k <= 300; k++) {
                if (c.over()) {
                    return k;
                }
                c.rounds(1);
            }
            return -5;
        }

        int till(int n) {
            State c = copy();
            c.hands(n);
            return c.till();
        }

        int many(int from, int to) {
            int many = 0;
            for (Task t : tasks) {
                many += t.state >= from && t.state <= to ? 1 : 0;
            }
            return many;
        }

        int worths() {
            int sum = 0;
            for (Task t : tasks) {
                sum += t.state == 3 ? t.worth : 0;
            }
            return sum;
        }
    }

    /** A TREE read by descent; at is where it stands, and stays where none begins so. */
    private static final class Reader {
        final String text;
        int at = 0;
        final List<Task> tasks = new ArrayList<>();

        Reader(String text) {
            this.text = text;
        }

        char next() {
            return at < text.length() ? text.charAt(at) : 0x7fff;
        }

        boolean whole() {
            return task(null, 0) && at == text.length();
        }

        boolean task(Task in, int brackets) {
            if (next() < '1' || next() > '9') {
                return false;
            }
            Task t = new Task();
            t.work = next() - '0';
            t.left = t.work;
            t.in = in;
            if (in != null) {
                in.members.add(t);
            }
            tasks.add(t);
            at++;
            if (next() == '!' || next() == '?') {
                t.mark = next() == '!' ? 1 : 2;
                at++;
            }
            if (next() != '(' || brackets == 4) {
                return true;
            }
            at++;
            for (int k = 1; k <= 6; k++) {
                if (!task(t, brackets + 1)) {
                    return false;
                }
                if (next() == ')') {
                    at++;
                    return true;
                }
                if (k == 6 || next() != ',') {
                    return false;
                }
                at++;
            }
            return false;
        }
    }

    private State now = new State();
    private State kept = null;
    private String text = "";
    private final long[][] rows = new long[6][];
    private final int[] sorts = new int[6];

    Model() {
        now.hands.add(new Hand());
        now.hands.add(new Hand());
    }

    /** The answer that is due to a call by its name. */
    long answer(String name, long[] given) {
        int a = given.length > 0 ? (int) given[0] : 0;
        int b = given.length > 1 ? (int) given[1] : 0;
        int c = given.length > 2 ? (int) given[2] : 0;
        switch (name) {
            case "arms": return arms(a);
            case "seed": return seed(a);
            case "feed": return feed(a);
            case "tree": return tree(a);
            case "of": return of(a, b);
            case "cause": return cause(a, b);
            case "arm": return arm(a, b);
            case "pass": return pass(a);
            case "cancel": return !task(a) ? -1 : now.tasks.get(a).ended() ? -3 : now.cancel(now.tasks.get(a));
            case "told": return told(a);
            case "trace": return trace(a, b);
            case "on": return on(a, b);
            case "till": return a < 1 || a > 4 ? -2 : now.till(a);
            case "see": return told(now.seen, 5, a, b, a == -1, !task(a) ? -1 : b < 0 || b > 39 ? -2 : 0);
            case "seeds": return seeds();
            case "odds": return odds(a, b);
            case "mean": return part(now.worths(), now.many(3, 3), a);
            case "plan":
                return told(now.plan, 10, a, b, a == -1, a < 0 || a > 2 || a == 1 && !task(b) ? -1 : 0);
            case "ends": return ends(a);
            case "book": return told(now.book, 8, a, b, a == -1, !task(a) ? -1 : b < 0 || b > 5 ? -2 : 0);
            case "looked": return looked();
            case "judge": return judge(a, b);
            case "image":
                kept = now.copy();
                return kept.tasks.size();
            case "undo":
                if (kept == null) {
                    return -3;
                }
                now = kept.copy();
                return now.tasks.size();
            case "count": return count(a);
            case "tape": return tape(a, b, c);
            case "item": return item(a, b, given[2]);
            case "read": return rowHas(a, b) ? rows[a][b] : NO;
            default: return shift(a, b, c, (int) given[3], (int) given[4]);
        }
    }

    /** The TASK of entry k from now on, were SEED s; -5: there is none. */
    int taskOfEntry(int k, int s) {
        State c = now.copy();
        c.seed = s;
        c.rounds(60);
        int entry = now.entries.size() + k;
        return entry < c.entries.size() ? c.entries.get(entry)[3] : -5;
    }

    private boolean task(int n) {
        return n >= 0 && n < now.tasks.size();
    }

    private static int number(Task t) {
        return t == null ? -5 : t.number;
    }

    private int arms(int n) {
        if (n < 1 || n > 4) {
            return -2;
        }
        int were = now.hands.size();
        now.hands(n);
        return were;
    }

    private int seed(int v) {
        int was = now.seed;
        now.seed = v;
        return was;
    }

    private int feed(int sign) {
        if (sign < 0 || sign > 127) {
            return -2;
        }
        if (text.length() == 100) {
            return -4;
        }
        text += (char) sign;
        return text.length();
    }

    private int tree(int arm) {
        if (arm < 0 || arm >= now.hands.size()) {
            return -1;
        }
        Reader reader = new Reader(text);
        text = "";
        if (!reader.whole()) {
            return -10 - reader.at;
        }
        if (now.tasks.size() + reader.tasks.size() > 32) {
            return -4;
        }
        for (Task t : reader.tasks) {
            t.number = now.tasks.size();
            now.tasks.add(t);
        }
        Task root = reader.tasks.get(0);
        now.hands.get(arm).row.addLast(root);
        return root.number;
    }

    private int of(int n, int what) {
        if (!task(n)) {
            return -1;
        }
        Task t = now.tasks.get(n);
        int[] all = {t.state, t.work, t.left, t.worth, number(t.in), t.members.size(), t.mark, t.span(), t.sum(),
            t.depth(), now.handOf(t), now.rowOf(t)};
        return what < 0 || what >= all.length ? -1 : all[what];
    }

    private int cause(int n, int k) {
        if (!task(n) || k < 0) {
            return -1;
        }
        Task t = now.tasks.get(n).state == 4 ? now.tasks.get(n) : null;
        for (int step = 0; step < k && t != null; step++) {
            t = t.cause;
        }
        return number(t);
    }

    private int arm(int n, int what) {
        if (n < 0 || n >= now.hands.size() || what < 0 || what > 3 && what < 10) {
            return -1;
        }
        Hand h = now.hands.get(n);
        if (what >= 10) {
            return what - 10 < h.row.size() ? h.row.get(what - 10).number : -5;
        }
        return new int[] {h.row.size(), number(h.task), h.idle, h.stole}[what];
    }

    private int pass(int n) {
        if (n < 0 || n > 60) {
            return -2;
        }
        if (now.round + n > 9999) {
            return -3;
        }
        now.rounds(n);
        return now.round;
    }

    private int told(int what) {
        switch (what) {
            case 0: return now.round;
            case 1: return now.seed;
            case 2: return now.hands.size();
            case 3: return now.over() ? 1 : 0;
            case 4: return now.till();
            case 5:
                int best = -5;
                for (int n = 4; n > 0; n--) {
                    if (now.till(n) >= 0 && (best < 0 || now.till(n) <= now.till(best))) {
                        best = n;
                    }
                }
                return best;
            case 6: return Math.min(40, now.entries.size());
            default: return -10001;
        }
    }

    private int trace(int k, int what) {
        if (k < 0 || k >= told(6) || what < 0 || what > 3) {
            return -1;
        }
        return now.entries.get(now.entries.size() - told(6) + k)[what];
    }

    private int on(int n, int what) {
        if (what < 0 || what > 3) {
            return -1;
        }
        if (n < 0 || n > 60) {
            return -2;
        }
        State c = now.copy();
        c.rounds(n);
        int idle = 0;
        int stole = 0;
        for (Hand h : c.hands) {
            idle += h.idle;
            stole += h.stole;
        }
        return new int[] {c.many(3, 5), c.many(3, 3), idle, stole}[what];
    }

    private static int told(List<int[]> rows, int most, int a, int b, boolean clears, int refusal) {
        if (clears) {
            rows.clear();
            return 0;
        }
        if (refusal != 0) {
            return refusal;
        }
        if (rows.size() == most) {
            return -4;
        }
        rows.add(new int[] {a, b});
        return rows.size();
    }

    private int seeds() {
        int bits = 0;
        for (int s = 0; s <= 30; s++) {
            State c = now.copy();
            c.seed = s;
            c.rounds(60);
            boolean so = true;
            for (int[] each : now.seen) {
                int entry = now.entries.size() + each[1];
                so &= entry < c.entries.size() && c.entries.get(entry)[3] == each[0];
            }
            bits += so ? 1 << s : 0;
        }
        return bits;
    }

    private long odds(int n, int part) {
        if (n < 0 || n > 60) {
            return NO;
        }
        int over = 0;
        for (int s = 0; s < 20; s++) {
            State c = now.copy();
            c.seed = s;
            c.rounds(n);
            over += c.over() ? 1 : 0;
        }
        return part(over, 20, part);
    }

    private static long part(int above, int below, int part) {
        if (below == 0 || part < 0 || part > 1) {
            return NO;
        }
        for (int by = below; by > 1; by--) {
            if (above % by == 0 && below % by == 0) {
                return part == 0 ? above / by : below / by;
            }
        }
        return part == 0 ? above : below;
    }

    private int ends(int what) {
        State c = now.copy();
        for (int[] row : now.plan) {
            if (row[0] == 0) {
                c.rounds(1);
            } else if (row[0] == 2) {
                c.seed = row[1];
            } else if (!c.tasks.get(row[1]).ended()) {
                c.cancel(c.tasks.get(row[1]));
            }
        }
        return what == 0 ? c.many(3, 5) : what == 1 ? c.worths() : -1;
    }

    private int looked() {
        for (int k = 0; k < now.book.size(); k++) {
            if (now.tasks.get(now.book.get(k)[0]).state != now.book.get(k)[1]) {
                return k;
            }
        }
        return -5;
    }

    private int judge(int n, int i) {
        if (n < 0 || n > 5) {
            return -1;
        }
        if (rows[n] != null && sorts[n] != 0) {
            return -12;
        }
        for (int k = 0; k < now.tasks.size(); k++) {
            if (i < 0 || !rowHas(n, (long) i + k)) {
                return 100 + k;
            }
            if (rows[n][i + k] != now.tasks.get(k).worth) {
                return k;
            }
        }
        return -5;
    }

    private int count(int what) {
        if (what < 0 || what > 5) {
            return -2;
        }
        return new int[] {now.tasks.size(), now.many(3, 5), now.seen.size(), now.plan.size(), now.book.size(),
            text.length()}[what];
    }

    private boolean rowHas(int n, long i) {
        return n >= 0 && n <= 5 && rows[n] != null && i >= 0 && i < rows[n].length;
    }

    private int tape(int n, int sort, int size) {
        if (n < 0 || n > 5) {
            return -1;
        }
        if (sort != -1 && (sort < 0 || sort > 4 || size > 60)) {
            return -2;
        }
        if (sort != -1 && size < 0) {
            return -14;
        }
        rows[n] = sort == -1 ? null : new long[size];
        sorts[n] = sort;
        return 1;
    }

    private int item(int n, int i, long v) {
        if (n < 0 || n > 5) {
            return -1;
        }
        if (rows[n] == null) {
            return -11;
        }
        if (!rowHas(n, i)) {
            return -13;
        }
        int spare = new int[] {56, 48, 32, 0, 0}[sorts[n]];
        rows[n][i] = sorts[n] == 4 ? Math.min(1, v == 0 ? 0 : 1) : v << spare >> spare;
        return 1;
    }

    private int shift(int n, int i, int m, int j, int many) {
        if (n < 0 || n > 5 || m < 0 || m > 5) {
            return -1;
        }
        if (rows[n] == null || rows[m] == null) {
            return -11;
        }
        if (sorts[n] != sorts[m]) {
            return -12;
        }
        if (many < 0 || i < 0 || j < 0 || (long) i + many > rows[n].length || (long) j + many > rows[m].length) {
            return -13;
        }
        long[] were = rows[n].clone();
        for (int k = 0; k < many; k++) {
            rows[m][j + k] = were[i + k];
        }
        return many;
    }
}
