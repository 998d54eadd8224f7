/**
 * What is answered by a refusal, and what is only asked, changes nothing: a twin that gets none of those calls
 * goes on alike, also where it can't be looked at at once (THE TEXT, the IMAGE, SEED's draws).
 */
public final class NothingChangesTest {
    private static final int[] ODD = {-1, -2, -5, 0, 1, 3, 4, 5, 6, 7, 8, 9, 12, 17, 32, 39, 40, 60, 61, 99, 127, 128,
        9999, 10000, Integer.MAX_VALUE, Integer.MAX_VALUE - 1, Integer.MIN_VALUE, Integer.MIN_VALUE + 1};

    public static void main(String[] args) {
        for (int state = 0; state < 4; state++) {
            StealingArms asked = stateOf(state);
            StealingArms twin = stateOf(state);
            String was = Check.all(asked);
            Check.same("a twin", was, Check.all(twin));
            refuse(asked, state);
            Check.same("refused in state " + state, Check.all(asked), was);
            ask(asked);
            Check.same("asked in state " + state, Check.all(asked), was);
            goOn(asked, state);
            goOn(twin, state);
            Check.same("gone on from state " + state, Check.all(asked), Check.all(twin));
            Check.due("undo", asked.undo(), twin.undo());
            Check.same("undone", Check.all(asked), Check.all(twin));
        }
        Check.end("NothingChangesTest");
    }

    /** New; on the way; all told that may be; late. */
    private static StealingArms stateOf(int state) {
        if (state == 0) {
            return new StealingArms();
        }
        StealingArms x = Check.with(3, "0:2(1(3,2!),3?(1!,4),2)", "2:4(1,1,1,1,1,1)", "2:6", "1:1!", "0:3");
        x.pass(2);
        x.image();
        x.pass(3);
        x.seed(-77);
        x.tape(0, 0, 20);
        x.tape(1, 1, 7);
        x.tape(2, 4, 3);
        x.item(0, 0, 1);
        Check.feed(x, "5(3,");
        x.see(3, 2);
        x.plan(0, 0);
        x.book(1, 0);
        if (state == 2) {
            fill(x);
        }
        if (state == 3) {
            for (int k = 0; k < 166; k++) {
                x.pass(60);
            }
            x.pass(34);
        }
        return x;
    }

    private static void fill(StealingArms x) {
        for (int k = 0; k < 10; k++) {
            x.see(k % 4, k);
            x.plan(k % 3, k);
            x.book(k, 0);
        }
        while (x.count(5) < 100) {
            x.feed('7');
        }
    }

    private static void refuse(StealingArms x, int state) {
        for (int a : new int[] {-1, 0, 5, 6, Integer.MAX_VALUE, Integer.MIN_VALUE}) {
            Check.due("arms", x.arms(a), Check.BAD);
        }
        for (int a : new int[] {-1, 128, Integer.MAX_VALUE, Integer.MIN_VALUE}) {
            Check.due("feed", x.feed(a), Check.BAD);
            Check.due("tree", x.tree(a == 128 ? 4 : a), Check.NONE);
            Check.due("cancel", x.cancel(a), Check.NONE);
            Check.due("pass", x.pass(a), Check.BAD);
            Check.due("see", x.see(a == -1 ? -2 : a, 0), Check.NONE);
            Check.due("plan", x.plan(1, a), Check.NONE);
            Check.due("plan", x.plan(a == -1 ? 3 : a, 0), Check.NONE);
            Check.due("book", x.book(a == -1 ? -2 : a, 0), Check.NONE);
            Check.due("tape", x.tape(a, 0, 0), Check.NONE);
            Check.due("tape", x.tape(0, a == -1 ? 5 : a, 0), Check.BAD);
            Check.due("item", x.item(a, 0, 1), Check.NONE);
            Check.due("shift", x.shift(a, 0, 0, 0, 0), Check.NONE);
            Check.due("shift", x.shift(0, 0, a, 0, 0), Check.NONE);
        }
        Check.due("tape", x.tape(0, 0, 61), Check.BAD);
        Check.due("tape", x.tape(0, 0, -1), Check.SIZE);
        Check.due("item", x.item(5, 0, 1), Check.NOTHING);
        Check.due("shift", x.shift(0, 0, 5, 0, 0), Check.NOTHING);
        if (state == 0) {
            Check.due("undo", x.undo(), Check.STATE);
            return;
        }
        Check.due("item", x.item(0, 20, 1), Check.PLACE);
        Check.due("shift", x.shift(0, 0, 1, 0, 1), Check.CAST);
        Check.due("shift", x.shift(0, 0, 0, 1, 20), Check.PLACE);
        Check.due("cancel", x.cancel(16), Check.STATE);
        Check.due("see", x.see(0, 40), Check.BAD);
        Check.due("book", x.book(0, 6), Check.BAD);
        if (state == 2) {
            Check.due("see", x.see(0, 0), Check.FULL);
            Check.due("plan", x.plan(0, 0), Check.FULL);
            Check.due("book", x.book(0, 0), Check.FULL);
            Check.due("feed", x.feed('1'), Check.FULL);
        }
        if (state == 3) {
            Check.due("pass", x.pass(1), Check.STATE);
        }
    }

    private static void ask(StealingArms x) {
        for (int a : ODD) {
            x.told(a);
            x.till(a);
            x.odds(a, 0);
            x.odds(a, 1);
            x.mean(a);
            x.ends(a);
            x.count(a);
            x.seeds();
            x.looked();
            for (int b : ODD) {
                x.of(a, b);
                x.cause(a, b);
                x.arm(a, b);
                x.trace(a, b);
                x.on(a, b);
                x.judge(a, b);
                x.read(a, b);
            }
        }
    }

    private static void goOn(StealingArms x, int state) {
        if (state == 2) {
            x.tree(0);
        }
        Check.feed(x, state == 1 || state == 3 ? "2!)" : "3(1)");
        Check.due("THE TEXT was as it was", x.tree(0), state == 0 ? 0 : 18);
        x.plan(0, 0);
        x.see(0, 5);
        x.book(2, 2);
        x.pass(state == 3 ? 0 : 4);
    }
}
