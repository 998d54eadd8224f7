import java.util.ArrayList;
import java.util.List;
import java.util.Random;

/**
 * Long runs of calls drawn by fixed seeds, with fitting and unfitting arguments, each answered by the class and by
 * the Model; now and then all that can be seen is looked at too.
 */
public final class ModelTest {
    private static final int RUNS = 900, CALLS = Calls.MOST;
    private static final int[] ODD = {-1, -2, -5, 5, 6, 9, 32, 40, 60, 61, 99, 100, 127, 128, 9999,
        Integer.MAX_VALUE, Integer.MIN_VALUE, 1 << 16, -(1 << 16)};
    private static final String[] NAMES = {"arms", "seed", "feed", "tree", "of", "cause", "arm", "pass", "cancel",
        "told", "trace", "on", "till", "see", "seeds", "odds", "mean", "plan", "ends", "book", "looked", "judge",
        "image", "undo", "count", "tape", "item", "read", "shift"};

    private final Random random;
    private final StealingArms real = new StealingArms();
    private final Model model = new Model();
    private final StringBuilder told = new StringBuilder();
    private final List<Object[]> changing = new ArrayList<>(); // the calls so far that are more than questions
    private int calls = 0;
    private StealingArms twin = null; // another object, brought where this one is by the calls that change it
    private int callsOfTwin = 0;
    private final boolean slow; // few ROUNDS at once: more is asked while TASKS are on their way
    private final boolean hard; // much WORK in each TASK
    private final boolean restless; // ARMS come and go all the time, and so do TASKS that they were at work on
    private final boolean late; // near the last ROUND from the start on

    private ModelTest(int run) {
        random = new Random(run);
        slow = run % 3 != 0;
        hard = run % 7 == 1;
        late = run % 7 == 2;
        restless = run % 7 == 3;
    }

    public static void main(String[] args) {
        for (int run = 0; run < RUNS && Check.allRightSoFar(); run++) {
            new ModelTest(run).go(run);
        }
        Check.end("ModelTest");
    }

    private void go(int run) {
        while (late && calls < 165) {
            ask("pass", 60);
        }
        while (calls < CALLS && Check.allRightSoFar()) {
            if (random.nextInt(100) < 7 && due("count", 0) < 32) {
                String text = text();
                for (int k = 0; k < text.length(); k++) {
                    ask("feed", text.charAt(k));
                }
                ask("tree", random.nextInt(20) == 0 ? odd() : random.nextInt(due("told", 2)));
            } else if (restless && random.nextInt(3) == 0) {
                ask("arms", pick(1, 4));
                ask("pass", 1);
            } else {
                any(NAMES[random.nextInt(NAMES.length)]);
            }
        }
        if (!Check.allRightSoFar()) {
            System.out.println("run " + run + ":" + told);
        }
    }

    private void any(String name) {
        switch (name) {
            case "arms": ask(name, pick(1, 4)); break;
            case "seed": ask(name, random.nextBoolean() ? random.nextInt() : pick(0, 30)); break;
            case "feed":
                int signs = random.nextInt(8) > 0 ? 0 : random.nextInt(20) > 0 ? 1 : 103;
                for (int k = 0; k < signs; k++) {
                    ask(name, random.nextInt(130) - 1);
                }
                break;
            case "tree": if (random.nextInt(8) == 0) ask(name, pick(0, 3)); break;
            case "of": ask(name, aTask(), pick(0, 11)); break;
            case "cause": ask(name, aTask(), pick(0, 4)); break;
            case "arm": ask(name, pick(0, 3), random.nextBoolean() ? pick(0, 3) : pick(10, 20)); break;
            case "pass": ask(name, slow ? pick(0, 2) : pick(0, 9)); break;
            case "cancel": if (random.nextInt(4) == 0) ask(name, aTask()); break;
            case "told": case "count": ask(name, pick(0, 6)); break;
            case "trace": ask(name, random.nextInt(42), pick(0, 3)); break;
            case "on": ask(name, pick(0, 60), pick(0, 3)); break;
            case "till": ask(name, pick(1, 4)); break;
            case "see": see(); break;
            case "odds": odds(); break;
            case "mean": case "ends": ask(name, pick(0, 1)); break;
            case "plan": plan(); break;
            case "book": book(); break;
            case "judge": judge(); break;
            case "tape": ask(name, pick(0, 5), random.nextInt(4) == 0 ? -1 : pick(0, 4), pick(0, 12)); break;
            case "item": ask(name, pick(0, 5), pick(0, 12), long64()); break;
            case "read": ask(name, pick(0, 5), pick(0, 12)); break;
            case "shift":
                ask(name, pick(0, 5), pick(0, 6), pick(0, 5), pick(0, 6), pick(0, 6));
                break;
            case "image": case "undo": if (random.nextInt(4) == 0) ask(name); break;
            default: ask(name);
        }
    }

    private void see() {
        if (random.nextInt(6) == 0) {
            ask("see", -1, odd());
            return;
        }
        // mostly what does come by some seed, so that SEEDS is not always empty
        int k = random.nextInt(random.nextInt(5) == 0 ? 40 : 12);
        int task = random.nextInt(4) == 0 ? aTask() : model.taskOfEntry(k, random.nextInt(31));
        if (task >= 0) {
            ask("see", task, random.nextInt(20) == 0 ? odd() : k);
            ask("seeds");
        }
    }

    private void odds() {
        int near = due("told", 4) + random.nextInt(7) - 3;
        int n = random.nextInt(4) > 0 ? near : pick(0, 60);
        int part = pick(0, 1);
        ask("odds", n, part);
        ask("odds", n, 1 - part);
    }

    private void plan() {
        int what = random.nextInt(8) == 0 ? odd() : random.nextInt(6) % 3;
        ask("plan", what, what == 1 ? aTask() : what == 2 ? random.nextInt() : odd());
        ask("ends", pick(0, 1));
    }

    private void book() {
        int task = aTask();
        if (random.nextInt(8) == 0) {
            ask("book", -1, odd());
        } else {
            int state = random.nextInt(3) > 0 ? due("of", task, 0) : pick(0, 5);
            ask("book", task, state);
        }
        ask("looked");
    }

    private void judge() {
        if (random.nextBoolean() && due("count", 0) > 0) {
            int at = random.nextInt(3);
            ask("tape", 0, 0, at + random.nextInt(34));
            for (int task = 0; task < due("count", 0) && task < 8; task++) {
                ask("item", 0, at + task, random.nextInt(12) == 0 ? long64() : due("of", task, 3));
            }
            ask("judge", 0, at);
        }
        ask("judge", pick(0, 5), pick(0, 12));
    }

    private int pick(int from, int to) {
        return random.nextInt(12) == 0 ? odd() : from + random.nextInt(to - from + 1);
    }

    private int aTask() {
        int tasks = due("count", 0);
        return random.nextInt(15) == 0 ? odd() : random.nextInt(tasks + (tasks == 0 ? 1 : 0));
    }

    private int odd() {
        return random.nextInt(3) == 0 ? due("count", 0) : ODD[random.nextInt(ODD.length)];
    }

    private long long64() {
        switch (random.nextInt(4)) {
            case 0: return 0;
            case 1: return random.nextInt(40);
            case 2: return random.nextInt();
            default: return random.nextLong();
        }
    }

    private String text() {
        StringBuilder text = new StringBuilder();
        grow(text, random.nextInt(20) == 0 ? 6 : 2 + random.nextInt(3), random.nextInt(3));
        if (random.nextInt(6) == 0) {
            int at = random.nextInt(text.length());
            char sign = "19!?(),0 x".charAt(random.nextInt(10));
            switch (random.nextInt(3)) {
                case 0: text.setCharAt(at, sign); break;
                case 1: text.insert(at, sign); break;
                default: text.deleteCharAt(at);
            }
        }
        return text.substring(0, Math.min(100, text.length()));
    }

    private void grow(StringBuilder text, int levels, int most) {
        text.append(hard ? 9 : 1 + random.nextInt(random.nextInt(4) == 0 ? 9 : 3));
        boolean members = levels > 1 && random.nextInt(hard ? 6 : 3) > 0;
        int mark = random.nextInt(hard ? 100 : 10);
        text.append(mark == 0 || mark == 1 && !members ? "!" : mark < 4 ? "?" : "");
        if (members) {
            text.append('(');
            int many = 1 + random.nextInt(random.nextInt(12) == 0 ? 7 : 2 + most);
            for (int k = 0; k < many; k++) {
                text.append(k == 0 ? "" : ",");
                grow(text, levels - 1, most / 2);
            }
            text.append(')');
        }
    }

    /** What the Model answers: a question more to the object would be one of its 512 calls. */
    private int due(String name, long... given) {
        return (int) model.answer(name, given);
    }

    private void ask(String name, long... given) {
        if (calls == CALLS) {
            return;
        }
        calls++;
        if (Calls.mayChange(name)) {
            changing.add(new Object[] {name, given});
        }
        long got = Calls.answer(real, name, given);
        told.append(' ').append(name).append('(');
        for (int k = 0; k < given.length; k++) {
            told.append(k == 0 ? "" : ", ").append(given[k]);
        }
        told.append(") ").append(got).append(';');
        Check.due(name, got, model.answer(name, given));
        if (!Check.allRightSoFar()) {
            return;
        }
        if (changing.size() < CALLS - 30 && (name.equals("undo") || random.nextInt(60) == 0)) {
            lookAtAll();
        }
    }

    /** All that no other call hides. */
    private void lookAtAll() {
        twin = null;
        for (int task = 0; task < due("count", 0); task++) {
            for (int what = 0; what < 12; what++) {
                same("of", task, what);
            }
            same("cause", task, 1);
        }
        for (int arm = 0; arm < due("told", 2); arm++) {
            for (int what = 0; what < 44; what++) {
                same("arm", arm, what);
            }
        }
        for (int k = 0; k <= due("told", 6); k++) {
            for (int what = 0; what < 4; what++) {
                same("trace", k, what);
            }
        }
        for (int what = 0; what < 7; what++) {
            same("told", what);
        }
    }

    private void same(String name, long... given) {
        if (twin == null || callsOfTwin == CALLS) {
            twin = new StealingArms();
            for (Object[] each : changing) {
                Calls.answer(twin, (String) each[0], (long[]) each[1]);
            }
            callsOfTwin = changing.size();
        }
        callsOfTwin++;
        Check.due(name + " " + given[0] + " " + given[given.length - 1], Calls.answer(twin, name, given),
            model.answer(name, given));
    }
}
