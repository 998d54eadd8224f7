/** The calls of the face by their names. */
final class Calls {
    private Calls() {
    }

    /** An object is promised for so many calls. */
    static final int MOST = 512;

    private static final String[] CHANGING = {"arms", "seed", "feed", "tree", "pass", "cancel", "see", "plan", "book",
        "image", "undo", "tape", "item", "shift"};

    /** Whether a call of this name is more than a question. */
    static boolean mayChange(String name) {
        for (String each : CHANGING) {
            if (each.equals(name)) {
                return true;
            }
        }
        return false;
    }

    static long answer(StealingArms x, String name, long[] given) {
        int a = given.length > 0 ? (int) given[0] : 0;
        int b = given.length > 1 ? (int) given[1] : 0;
        int c = given.length > 2 ? (int) given[2] : 0;
        switch (name) {
            case "arms": return x.arms(a);
            case "seed": return x.seed(a);
            case "feed": return x.feed(a);
            case "tree": return x.tree(a);
            case "of": return x.of(a, b);
            case "cause": return x.cause(a, b);
            case "arm": return x.arm(a, b);
            case "pass": return x.pass(a);
            case "cancel": return x.cancel(a);
            case "told": return x.told(a);
            case "trace": return x.trace(a, b);
            case "on": return x.on(a, b);
            case "till": return x.till(a);
            case "see": return x.see(a, b);
            case "seeds": return x.seeds();
            case "odds": return x.odds(a, b);
            case "mean": return x.mean(a);
            case "plan": return x.plan(a, b);
            case "ends": return x.ends(a);
            case "book": return x.book(a, b);
            case "looked": return x.looked();
            case "judge": return x.judge(a, b);
            case "image": return x.image();
            case "undo": return x.undo();
            case "count": return x.count(a);
            case "tape": return x.tape(a, b, c);
            case "item": return x.item(a, b, given[2]);
            case "read": return x.read(a, b);
            case "shift": return x.shift(a, b, c, (int) given[3], (int) given[4]);
            default: throw new IllegalArgumentException("no such call: " + name);
        }
    }
}
