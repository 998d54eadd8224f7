/**
 * Work stealing of tasks on virtual arms. What each call answers is promised in ../shared/DOC.md;
 * the words in capitals in these comments are that document's.
 */
public final class StealingArms {
    public static final int NONE = -1, BAD = -2, STATE = -3, FULL = -4;
    public static final long NO = Long.MIN_VALUE;

    private static final int NOTHING = -11, CAST = -12, PLACE = -13, SIZE = -14;
    private static final int ABSENT = -5, UNTOLD = -10001, FAULTY = -10, CUT_SHORT = 100;

    private static final int MOST_ARMS = 4, FIRST_ARMS = 2, MOST_TASKS = 32, MOST_SIGNS = 100;
    private static final int MOST_INSIDE = 6, MOST_OPEN = 4, MOST_ENTRIES = 40;
    private static final int MOST_ROUNDS = 60, LAST_ROUND = 9999, LONGEST_TILL = 300;
    private static final int MOST_SEEN = 5, MOST_PLAN = 10, MOST_BOOK = 8;
    private static final int SEEDS_TRIED = 31, SEEDS_LIKELY = 20;
    private static final int TAPES = 6, MOST_ITEMS = 60;

    private static final int WAITING = 0, AT_WORK = 1, JOINING = 2, DONE = 3, FAILED = 4, CANCELLED = 5;
    private static final int TAKEN = 0, STOLEN = 1;
    private static final int PLAIN = 0, FAILS = 1, CATCHES = 2;
    private static final int A_ROUND = 0, A_CANCEL = 1, A_SEED = 2;
    private static final int HOLDS_NOTHING = -1, BYTES = 0, SHORTS = 1, INTS = 2, LONGS = 3, BOOLEANS = 4;

    private final World now;
    private final World kept;
    /** What is asked is tried out here, so that asking changes nothing; it is used again and again. */
    private final World asked;
    private final Text text;
    private final Tape[] tapes;
    private boolean hasImage;

    public StealingArms() {
        now = new World();
        kept = new World();
        asked = new World();
        text = new Text();
        tapes = new Tape[TAPES];
        for (int k = 0; k < tapes.length; k++) {
            tapes[k] = new Tape();
        }
        hasImage = false;
    }

    // ---- arms, trees

    public int arms(int n) {
        if (n < 1 || n > MOST_ARMS) {
            return BAD;
        }
        int were = now.armsThere;
        now.changeArms(n);
        return were;
    }

    public int seed(int v) {
        int was = now.seed;
        now.seed = v;
        return was;
    }

    public int feed(int sign) {
        if (sign < 0 || sign > 127) {
            return BAD;
        }
        return text.append(sign) ? text.length : FULL;
    }

    public int tree(int arm) {
        if (!isArm(arm)) {
            return NONE;
        }
        int fault = text.parse();
        text.length = 0;
        if (fault != ABSENT) {
            return FAULTY - fault;
        }
        int root = now.tasks.many;
        if (root + text.many > MOST_TASKS) {
            return FULL;
        }
        for (int k = 0; k < text.many; k++) {
            int in = text.inside[k] == ABSENT ? ABSENT : root + text.inside[k];
            now.tasks.add(text.work[k], text.mark[k], in);
        }
        now.arms[arm].put(root);
        return root;
    }

    public int of(int task, int what) {
        Tasks tasks = now.tasks;
        if (!tasks.has(task)) {
            return NONE;
        }
        switch (what) {
            case 0: return tasks.state[task];
            case 1: return tasks.work[task];
            case 2: return tasks.left[task];
            case 3: return tasks.worth[task];
            case 4: return tasks.inside[task];
            case 5: return tasks.howManyIn(task);
            case 6: return tasks.mark[task];
            case 7: return tasks.span(task);
            case 8: return tasks.workOfAll(task);
            case 9: return tasks.depth(task);
            case 10: return now.armAtWorkOn(task);
            case 11: return now.armWithRowOf(task);
            default: return NONE;
        }
    }

    public int cause(int task, int k) {
        Tasks tasks = now.tasks;
        if (!tasks.has(task) || k < 0) {
            return NONE;
        }
        int at = tasks.state[task] == FAILED ? task : ABSENT;
        for (int step = 0; step < k && tasks.has(at); step++) {
            at = tasks.cause[at];
        }
        return at;
    }

    public int arm(int arm, int what) {
        if (!isArm(arm)) {
            return NONE;
        }
        Arm asker = now.arms[arm];
        switch (what) {
            case 0: return asker.length;
            case 1: return asker.task;
            case 2: return asker.idle;
            case 3: return asker.stole;
            default: return what < 10 ? NONE : asker.taskAt(what - 10);
        }
    }

    // ---- rounds

    public int pass(int n) {
        if (n < 0 || n > MOST_ROUNDS) {
            return BAD;
        }
        if (now.round + n > LAST_ROUND) {
            return STATE;
        }
        now.goRounds(n);
        return now.round;
    }

    public int cancel(int task) {
        if (!now.tasks.has(task)) {
            return NONE;
        }
        return now.tasks.isEnded(task) ? STATE : now.cancelByHand(task);
    }

    public int told(int what) {
        switch (what) {
            case 0: return now.round;
            case 1: return now.seed;
            case 2: return now.armsThere;
            case 3: return now.isOver() ? 1 : 0;
            case 4: return roundsTillOver(now.armsThere);
            case 5: return bestArms();
            case 6: return now.entries.many;
            default: return UNTOLD;
        }
    }

    public int trace(int k, int what) {
        return now.entries.entry(k, what);
    }

    public int on(int n, int what) {
        if (what < 0 || what > 3) {
            return NONE;
        }
        if (n < 0 || n > MOST_ROUNDS) {
            return BAD;
        }
        asked.become(now);
        asked.goRounds(n);
        switch (what) {
            case 0: return asked.tasks.howManyEnded();
            case 1: return asked.tasks.howManyDone();
            case 2: return asked.idleOfAll();
            default: return asked.stoleOfAll();
        }
    }

    public int till(int n) {
        return n < 1 || n > MOST_ARMS ? BAD : roundsTillOver(n);
    }

    // ---- seen, odds

    public int see(int task, int k) {
        if (task == -1) {
            return now.seen.clear();
        }
        if (!now.tasks.has(task)) {
            return NONE;
        }
        if (k < 0 || k >= MOST_ENTRIES) {
            return BAD;
        }
        return now.seen.add(task, k);
    }

    public int seeds() {
        int bits = 0;
        for (int s = 0; s < SEEDS_TRIED; s++) {
            if (isAsSeen(s)) {
                bits |= 1 << s;
            }
        }
        return bits;
    }

    public long odds(int n, int part) {
        if (n < 0 || n > MOST_ROUNDS || part < 0 || part > 1) {
            return NO;
        }
        int over = 0;
        for (int s = 0; s < SEEDS_LIKELY; s++) {
            asked.become(now);
            asked.seed = s;
            asked.goRoundsTillOver(n);
            if (asked.isOver()) {
                over++;
            }
        }
        return lowest(over, SEEDS_LIKELY, part);
    }

    public long mean(int part) {
        int done = now.tasks.howManyDone();
        if (part < 0 || part > 1 || done == 0) {
            return NO;
        }
        return lowest(now.tasks.worthOfAllDone(), done, part);
    }

    // ---- plans, books

    public int plan(int what, int n) {
        if (what == -1) {
            return now.plan.clear();
        }
        if (what < A_ROUND || what > A_SEED) {
            return NONE;
        }
        if (what == A_CANCEL && !now.tasks.has(n)) {
            return NONE;
        }
        return now.plan.add(what, n);
    }

    public int ends(int what) {
        if (what < 0 || what > 1) {
            return NONE;
        }
        asked.become(now);
        for (int k = 0; k < now.plan.many; k++) {
            asked.goAsPlanned(now.plan.first[k], now.plan.second[k]);
        }
        return what == 0 ? asked.tasks.howManyEnded() : asked.tasks.worthOfAllDone();
    }

    public int book(int task, int what) {
        if (task == -1) {
            return now.book.clear();
        }
        if (!now.tasks.has(task)) {
            return NONE;
        }
        if (what < WAITING || what > CANCELLED) {
            return BAD;
        }
        return now.book.add(task, what);
    }

    public int looked() {
        for (int k = 0; k < now.book.many; k++) {
            int task = now.book.first[k];
            if (now.tasks.has(task) && now.tasks.state[task] != now.book.second[k]) {
                return k;
            }
        }
        return ABSENT;
    }

    // ---- judging, the image, tapes

    public int judge(int tape, int i) {
        if (!isTape(tape)) {
            return NONE;
        }
        Tape row = tapes[tape];
        if (row.sort != HOLDS_NOTHING && row.sort != BYTES) {
            return CAST;
        }
        int many = now.tasks.many;
        if (i < 0) {
            return many == 0 ? ABSENT : CUT_SHORT;
        }
        for (int k = 0; k < many; k++) {
            if (k >= row.length - i) {
                return CUT_SHORT + k;
            }
            if (row.items[i + k] != now.tasks.worth[k]) {
                return k;
            }
        }
        return ABSENT;
    }

    public int image() {
        kept.become(now);
        hasImage = true;
        return kept.tasks.many;
    }

    public int undo() {
        if (!hasImage) {
            return STATE;
        }
        now.become(kept);
        return now.tasks.many;
    }

    public int count(int what) {
        switch (what) {
            case 0: return now.tasks.many;
            case 1: return now.tasks.howManyEnded();
            case 2: return now.seen.many;
            case 3: return now.plan.many;
            case 4: return now.book.many;
            case 5: return text.length;
            default: return BAD;
        }
    }

    public int tape(int tape, int sort, int n) {
        if (!isTape(tape)) {
            return NONE;
        }
        if (sort == HOLDS_NOTHING) {
            tapes[tape].becomeRow(HOLDS_NOTHING, 0);
            return 1;
        }
        if (sort < BYTES || sort > BOOLEANS || n > MOST_ITEMS) {
            return BAD;
        }
        if (n < 0) {
            return SIZE;
        }
        tapes[tape].becomeRow(sort, n);
        return 1;
    }

    public int item(int tape, int i, long v) {
        if (!isTape(tape)) {
            return NONE;
        }
        Tape row = tapes[tape];
        if (row.sort == HOLDS_NOTHING) {
            return NOTHING;
        }
        if (i < 0 || i >= row.length) {
            return PLACE;
        }
        row.items[i] = row.cut(v);
        return 1;
    }

    public long read(int tape, int i) {
        if (!isTape(tape)) {
            return NO;
        }
        Tape row = tapes[tape];
        return i < 0 || i >= row.length ? NO : row.items[i];
    }

    public int shift(int tape, int i, int other, int j, int n) {
        if (!isTape(tape) || !isTape(other)) {
            return NONE;
        }
        Tape from = tapes[tape];
        Tape to = tapes[other];
        if (from.sort == HOLDS_NOTHING || to.sort == HOLDS_NOTHING) {
            return NOTHING;
        }
        if (from.sort != to.sort) {
            return CAST;
        }
        if (n < 0 || i < 0 || j < 0 || n > from.length - i || n > to.length - j) {
            return PLACE;
        }
        System.arraycopy(from.items, i, to.items, j, n);
        return n;
    }

    // ---- what the calls share

    private boolean isArm(int arm) {
        return arm >= 0 && arm < now.armsThere;
    }

    private boolean isTape(int tape) {
        return tape >= 0 && tape < tapes.length;
    }

    /** TILL by ARMS n. */
    private int roundsTillOver(int n) {
        asked.become(now);
        asked.changeArms(n);
        for (int gone = 0; gone <= LONGEST_TILL; gone++) {
            if (asked.isOver()) {
                return gone;
            }
            asked.goRound();
        }
        return ABSENT;
    }

    private int bestArms() {
        int best = ABSENT;
        int least = LONGEST_TILL + 1;
        for (int n = 1; n <= MOST_ARMS; n++) {
            int rounds = roundsTillOver(n);
            if (rounds != ABSENT && rounds < least) {
                least = rounds;
                best = n;
            }
        }
        return best;
    }

    private boolean isAsSeen(int s) {
        asked.become(now);
        asked.seed = s;
        asked.entries.watch();
        asked.goRoundsTillOver(MOST_ROUNDS);
        for (int k = 0; k < now.seen.many; k++) {
            if (asked.entries.watchedTask(now.seen.second[k]) != now.seen.first[k]) {
                return false;
            }
        }
        return true;
    }

    private static int lowest(int above, int below, int part) {
        int divisor = below;
        int rest = above;
        for (int step = 0; step < 64 && rest != 0; step++) {
            int next = divisor % rest;
            divisor = rest;
            rest = next;
        }
        if (divisor < 1) {
            return 0;
        }
        return part == 0 ? above / divisor : below / divisor;
    }

    /** All that THE IMAGE holds. */
    private static final class World {
        final Arm[] arms;
        final Tasks tasks;
        final Entries entries;
        final Pairs seen;
        final Pairs plan;
        final Pairs book;
        int armsThere;
        int seed;
        int round;

        World() {
            arms = new Arm[MOST_ARMS];
            for (int a = 0; a < arms.length; a++) {
                arms[a] = new Arm();
            }
            tasks = new Tasks();
            entries = new Entries();
            seen = new Pairs(MOST_SEEN);
            plan = new Pairs(MOST_PLAN);
            book = new Pairs(MOST_BOOK);
            armsThere = FIRST_ARMS;
            seed = 1;
            round = 0;
        }

        void become(World other) {
            for (int a = 0; a < arms.length; a++) {
                arms[a].become(other.arms[a]);
            }
            tasks.become(other.tasks);
            entries.become(other.entries);
            seen.become(other.seen);
            plan.become(other.plan);
            book.become(other.book);
            armsThere = other.armsThere;
            seed = other.seed;
            round = other.round;
        }

        void changeArms(int n) {
            for (int a = n; a < armsThere; a++) {
                Arm leaving = arms[a];
                if (tasks.has(leaving.task)) {
                    tasks.state[leaving.task] = WAITING;
                    arms[0].put(leaving.task);
                }
                for (int k = 0; k < leaving.length; k++) {
                    arms[0].put(leaving.row[k]);
                }
                leaving.clear();
            }
            armsThere = n;
        }

        boolean isOver() {
            for (int a = 0; a < armsThere; a++) {
                if (arms[a].length > 0 || arms[a].task != ABSENT) {
                    return false;
                }
            }
            for (int t = 0; t < tasks.many; t++) {
                if (tasks.state[t] == JOINING) {
                    return false;
                }
            }
            return true;
        }

        void goRounds(int n) {
            for (int k = 0; k < n; k++) {
                goRound();
            }
        }

        /** At most n ROUNDS, but none once all is OVER: those would only make ARMS IDLE. */
        void goRoundsTillOver(int n) {
            for (int k = 0; k < n && !isOver(); k++) {
                goRound();
            }
        }

        void goAsPlanned(int what, int n) {
            if (what == A_ROUND) {
                goRound();
            } else if (what == A_SEED) {
                seed = n;
            } else if (tasks.has(n) && !tasks.isEnded(n)) {
                cancelByHand(n);
            }
        }

        void goRound() {
            for (int a = 0; a < armsThere; a++) {
                int task = arms[a].task;
                if (!tasks.has(task)) {
                    takeOne(a);
                } else if (tasks.lessLeft(task) == 0) {
                    arms[a].task = ABSENT;
                    if (endsByItself(task, a)) {
                        tellUpward(task);
                    }
                }
            }
            round++;
        }

        private void takeOne(int a) {
            Arm taker = arms[a];
            int task = taker.takeNear();
            int how = TAKEN;
            if (task == ABSENT) {
                int from = drawnArm(a);
                if (from == ABSENT) {
                    taker.idle++;
                    return;
                }
                task = arms[from].takeFar();
                taker.stole++;
                how = STOLEN;
            }
            if (tasks.has(task)) {
                taker.task = task;
                tasks.state[task] = AT_WORK;
                entries.add(round, a, how, task);
            }
        }

        /** One of the ARMS but a whose ROWS aren't empty, by a DRAW. */
        private int drawnArm(int a) {
            int full = 0;
            for (int b = 0; b < armsThere; b++) {
                if (b != a && arms[b].length > 0) {
                    full++;
                }
            }
            if (full == 0) {
                return ABSENT;
            }
            seed = seed * 1103515245 + 12345;
            int ahead = (seed >>> 16) % full;
            for (int b = 0; b < armsThere; b++) {
                if (b != a && arms[b].length > 0) {
                    if (ahead == 0) {
                        return b;
                    }
                    ahead--;
                }
            }
            return ABSENT;
        }

        /** A TASK is THROUGH on ARM a: whether it is ENDED by that. */
        private boolean endsByItself(int task, int a) {
            if (tasks.mark[task] == FAILS) {
                tasks.state[task] = FAILED;
                entries.add(round, a, FAILED, task);
                return true;
            }
            if (tasks.allInAreEnded(task)) {
                tasks.finish(task);
                entries.add(round, a, DONE, task);
                return true;
            }
            tasks.state[task] = JOINING;
            for (int t = task + 1; t < tasks.many; t++) {
                if (tasks.inside[t] == task && !tasks.isEnded(t)) {
                    arms[a].put(t);
                }
            }
            return false;
        }

        /** A TASK is ENDED: what that does to the one it is in, and so on upward. */
        private void tellUpward(int task) {
            int ended = task;
            int above = tasks.inside[task];
            for (int step = 0; step < MOST_OPEN && tasks.isJoining(above); step++) {
                if (tasks.state[ended] == FAILED && tasks.mark[above] != CATCHES) {
                    cancelFrom(above + 1, above);
                    tasks.state[above] = FAILED;
                    tasks.cause[above] = ended;
                } else if (tasks.allInAreEnded(above)) {
                    tasks.finish(above);
                } else {
                    return;
                }
                entries.add(round, ABSENT, tasks.state[above], above);
                ended = above;
                above = tasks.inside[above];
            }
        }

        /** A TASK that isn't ENDED is CANCELLED: how many are by that. */
        int cancelByHand(int task) {
            int many = cancelFrom(task, task);
            tellUpward(task);
            return many;
        }

        /** Those from number start on that are top or below it, and aren't ENDED, are CANCELLED: how many. */
        private int cancelFrom(int start, int top) {
            int many = 0;
            for (int t = start; t < tasks.many; t++) {
                if (tasks.state[t] < DONE && (t == top || tasks.isBelow(t, top))) {
                    for (int a = 0; a < armsThere; a++) {
                        arms[a].drop(t);
                    }
                    tasks.state[t] = CANCELLED;
                    entries.add(round, ABSENT, CANCELLED, t);
                    many++;
                }
            }
            return many;
        }

        int armAtWorkOn(int task) {
            for (int a = 0; a < armsThere; a++) {
                if (arms[a].task == task) {
                    return a;
                }
            }
            return ABSENT;
        }

        int armWithRowOf(int task) {
            for (int a = 0; a < armsThere; a++) {
                if (arms[a].holds(task)) {
                    return a;
                }
            }
            return ABSENT;
        }

        int idleOfAll() {
            int idle = 0;
            for (int a = 0; a < armsThere; a++) {
                idle += arms[a].idle;
            }
            return idle;
        }

        int stoleOfAll() {
            int stole = 0;
            for (int a = 0; a < armsThere; a++) {
                stole += arms[a].stole;
            }
            return stole;
        }
    }

    /** An ARM with its ROW: place 0 is the far end, the last place the near end. */
    private static final class Arm {
        final int[] row;
        int length;
        int task;
        int idle;
        int stole;

        Arm() {
            row = new int[MOST_TASKS];
            length = 0;
            task = ABSENT;
            idle = 0;
            stole = 0;
        }

        void become(Arm other) {
            System.arraycopy(other.row, 0, row, 0, row.length);
            length = other.length;
            task = other.task;
            idle = other.idle;
            stole = other.stole;
        }

        void clear() {
            length = 0;
            task = ABSENT;
            idle = 0;
            stole = 0;
        }

        int taskAt(int place) {
            return place >= 0 && place < length ? row[place] : ABSENT;
        }

        boolean holds(int one) {
            for (int k = 0; k < length; k++) {
                if (row[k] == one) {
                    return true;
                }
            }
            return false;
        }

        void put(int one) {
            if (length < row.length) {
                row[length] = one;
                length++;
            }
        }

        int takeNear() {
            int near = taskAt(length - 1);
            if (near != ABSENT) {
                length--;
            }
            return near;
        }

        int takeFar() {
            int far = taskAt(0);
            if (far != ABSENT) {
                drop(far);
            }
            return far;
        }

        /** No longer in this ROW, nor at work on here. */
        void drop(int one) {
            if (task == one) {
                task = ABSENT;
            }
            int stay = 0;
            for (int k = 0; k < length; k++) {
                if (row[k] != one) {
                    row[stay] = row[k];
                    stay++;
                }
            }
            length = stay;
        }
    }

    /** The TASKS, each with a number higher than the one that it is in. */
    private static final class Tasks {
        final int[] work;
        final int[] left;
        final int[] worth;
        final int[] state;
        final int[] inside;
        final int[] mark;
        final int[] cause;
        private final int[] longest;
        int many;

        Tasks() {
            work = new int[MOST_TASKS];
            left = new int[MOST_TASKS];
            worth = new int[MOST_TASKS];
            state = new int[MOST_TASKS];
            inside = new int[MOST_TASKS];
            mark = new int[MOST_TASKS];
            cause = new int[MOST_TASKS];
            longest = new int[MOST_TASKS];
            many = 0;
        }

        void become(Tasks other) {
            many = other.many;
            System.arraycopy(other.work, 0, work, 0, many);
            System.arraycopy(other.left, 0, left, 0, many);
            System.arraycopy(other.worth, 0, worth, 0, many);
            System.arraycopy(other.state, 0, state, 0, many);
            System.arraycopy(other.inside, 0, inside, 0, many);
            System.arraycopy(other.mark, 0, mark, 0, many);
            System.arraycopy(other.cause, 0, cause, 0, many);
        }

        void add(int itsWork, int itsMark, int in) {
            if (many < MOST_TASKS) {
                work[many] = itsWork;
                left[many] = itsWork;
                worth[many] = 0;
                state[many] = WAITING;
                inside[many] = in;
                mark[many] = itsMark;
                cause[many] = ABSENT;
                many++;
            }
        }

        boolean has(int task) {
            return task >= 0 && task < many;
        }

        boolean isEnded(int task) {
            return has(task) && state[task] >= DONE;
        }

        boolean isJoining(int task) {
            return has(task) && state[task] == JOINING;
        }

        int lessLeft(int task) {
            left[task]--;
            return left[task];
        }

        boolean allInAreEnded(int task) {
            for (int t = task + 1; t < many; t++) {
                if (inside[t] == task && state[t] < DONE) {
                    return false;
                }
            }
            return true;
        }

        /** DONE, with the WORTHS of what is in it. */
        void finish(int task) {
            int sum = work[task];
            for (int t = task + 1; t < many; t++) {
                if (inside[t] == task && state[t] == DONE) {
                    sum += worth[t];
                }
            }
            state[task] = DONE;
            worth[task] = sum;
        }

        boolean isBelow(int task, int top) {
            int above = inside[task];
            for (int step = 0; step < MOST_OPEN && above > top; step++) {
                above = inside[above];
            }
            return above == top;
        }

        int howManyIn(int task) {
            int sum = 0;
            for (int t = task + 1; t < many; t++) {
                if (inside[t] == task) {
                    sum++;
                }
            }
            return sum;
        }

        int span(int task) {
            for (int t = task; t < many; t++) {
                longest[t] = 0;
            }
            // From the last on, as what is in one comes behind it: each is told upward when all in it has been.
            for (int t = many - 1; t > task; t--) {
                int above = inside[t];
                if (above >= task) {
                    longest[above] = Math.max(longest[above], work[t] + longest[t]);
                }
            }
            return work[task] + longest[task];
        }

        int workOfAll(int task) {
            int sum = work[task];
            for (int t = task + 1; t < many; t++) {
                if (isBelow(t, task)) {
                    sum += work[t];
                }
            }
            return sum;
        }

        int depth(int task) {
            int depth = 0;
            for (int above = inside[task]; depth < MOST_OPEN && has(above); depth++) {
                above = inside[above];
            }
            return depth;
        }

        int howManyEnded() {
            int sum = 0;
            for (int t = 0; t < many; t++) {
                if (state[t] >= DONE) {
                    sum++;
                }
            }
            return sum;
        }

        int howManyDone() {
            int sum = 0;
            for (int t = 0; t < many; t++) {
                if (state[t] == DONE) {
                    sum++;
                }
            }
            return sum;
        }

        int worthOfAllDone() {
            int sum = 0;
            for (int t = 0; t < many; t++) {
                if (state[t] == DONE) {
                    sum += worth[t];
                }
            }
            return sum;
        }
    }

    /** THE TRACE, a ring of its latest entries; and, while watched, the TASKS of the first ones from then on. */
    private static final class Entries {
        private final int[] rounds;
        private final int[] arms;
        private final int[] kinds;
        private final int[] tasks;
        private final int[] watched;
        private int watchedMany;
        private int oldest;
        int many;

        Entries() {
            rounds = new int[MOST_ENTRIES];
            arms = new int[MOST_ENTRIES];
            kinds = new int[MOST_ENTRIES];
            tasks = new int[MOST_ENTRIES];
            watched = new int[MOST_ENTRIES];
            watchedMany = 0;
            oldest = 0;
            many = 0;
        }

        void become(Entries other) {
            System.arraycopy(other.rounds, 0, rounds, 0, MOST_ENTRIES);
            System.arraycopy(other.arms, 0, arms, 0, MOST_ENTRIES);
            System.arraycopy(other.kinds, 0, kinds, 0, MOST_ENTRIES);
            System.arraycopy(other.tasks, 0, tasks, 0, MOST_ENTRIES);
            oldest = other.oldest;
            many = other.many;
        }

        void add(int round, int arm, int kind, int task) {
            int place = (oldest + many) % MOST_ENTRIES;
            rounds[place] = round;
            arms[place] = arm;
            kinds[place] = kind;
            tasks[place] = task;
            if (many < MOST_ENTRIES) {
                many++;
            } else {
                oldest = (oldest + 1) % MOST_ENTRIES;
            }
            if (watchedMany < MOST_ENTRIES) {
                watched[watchedMany] = task;
                watchedMany++;
            }
        }

        int entry(int k, int what) {
            if (k < 0 || k >= many) {
                return NONE;
            }
            int place = (oldest + k) % MOST_ENTRIES;
            switch (what) {
                case 0: return rounds[place];
                case 1: return arms[place];
                case 2: return kinds[place];
                case 3: return tasks[place];
                default: return NONE;
            }
        }

        void watch() {
            watchedMany = 0;
        }

        int watchedTask(int k) {
            return k >= 0 && k < watchedMany ? watched[k] : ABSENT;
        }
    }

    /** Rows of two numbers, told by hand. */
    private static final class Pairs {
        final int[] first;
        final int[] second;
        int many;

        Pairs(int most) {
            first = new int[Math.max(0, most)];
            second = new int[Math.max(0, most)];
            many = 0;
        }

        void become(Pairs other) {
            many = Math.min(other.many, first.length);
            System.arraycopy(other.first, 0, first, 0, many);
            System.arraycopy(other.second, 0, second, 0, many);
        }

        int clear() {
            many = 0;
            return 0;
        }

        int add(int one, int two) {
            if (many >= first.length) {
                return FULL;
            }
            first[many] = one;
            second[many] = two;
            many++;
            return many;
        }
    }

    /** THE TEXT, and the TREE that is read from it. */
    private static final class Text {
        private static final int WANTS_WORK = 0, HAS_WORK = 1, HAS_MARK = 2, IS_CLOSED = 3;

        private final int[] signs;
        int length;

        final int[] work;
        final int[] mark;
        final int[] inside;
        int many;

        /** Of each ( that is open the TASK that has it, and how many are in that so far. */
        private final int[] opened;
        private final int[] members;
        private int open;
        private int reading;

        Text() {
            signs = new int[MOST_SIGNS];
            length = 0;
            work = new int[MOST_SIGNS];
            mark = new int[MOST_SIGNS];
            inside = new int[MOST_SIGNS];
            many = 0;
            opened = new int[MOST_OPEN];
            members = new int[MOST_OPEN];
            open = 0;
            reading = WANTS_WORK;
        }

        boolean append(int sign) {
            if (length >= signs.length) {
                return false;
            }
            signs[length] = sign;
            length++;
            return true;
        }

        /** The FAULT; ABSENT if THE TEXT is a TREE. */
        int parse() {
            many = 0;
            open = 0;
            reading = WANTS_WORK;
            for (int place = 0; place < length; place++) {
                if (!goesOn(signs[place])) {
                    return place;
                }
            }
            return reading == WANTS_WORK || open > 0 ? length : ABSENT;
        }

        private boolean goesOn(int sign) {
            if (reading == WANTS_WORK) {
                return sign >= '1' && sign <= '9' && begin(sign - '0');
            }
            switch (sign) {
                case '!': return marks(FAILS);
                case '?': return marks(CATCHES);
                case '(': return opens();
                case ',': return separates();
                case ')': return closes();
                default: return false;
            }
        }

        private boolean begin(int itsWork) {
            if (many >= work.length) {
                return false;
            }
            work[many] = itsWork;
            mark[many] = PLAIN;
            inside[many] = ABSENT;
            if (open > 0) {
                inside[many] = opened[open - 1];
                members[open - 1]++;
            }
            many++;
            reading = HAS_WORK;
            return true;
        }

        private boolean marks(int how) {
            if (reading != HAS_WORK || many == 0) {
                return false;
            }
            mark[many - 1] = how;
            reading = HAS_MARK;
            return true;
        }

        private boolean opens() {
            if (reading == IS_CLOSED || open >= MOST_OPEN) {
                return false;
            }
            opened[open] = many - 1;
            members[open] = 0;
            open++;
            reading = WANTS_WORK;
            return true;
        }

        private boolean separates() {
            if (open == 0 || members[open - 1] >= MOST_INSIDE) {
                return false;
            }
            reading = WANTS_WORK;
            return true;
        }

        private boolean closes() {
            if (open == 0) {
                return false;
            }
            open--;
            reading = IS_CLOSED;
            return true;
        }
    }

    /** A TAPE: nothing, or a row of one sort. */
    private static final class Tape {
        final long[] items;
        int sort;
        int length;

        Tape() {
            items = new long[MOST_ITEMS];
            sort = HOLDS_NOTHING;
            length = 0;
        }

        void becomeRow(int itsSort, int n) {
            for (int i = 0; i < items.length; i++) {
                items[i] = 0L;
            }
            sort = itsSort;
            length = n;
        }

        /** The lowest bits of v, as many as an item has. */
        long cut(long v) {
            switch (sort) {
                case BYTES: return (byte) v;
                case SHORTS: return (short) v;
                case INTS: return (int) v;
                case LONGS: return v;
                default: return v != 0L ? 1L : 0L;
            }
        }
    }
}
