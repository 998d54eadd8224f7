import java.util.ArrayDeque;
import java.util.ArrayList;
import java.util.Deque;
import java.util.List;

/** Promises 9 to 14 (pass, cancel, told, trace, on, till), and what goes on in a ROUND. */
public final class RoundsTest {
    public static void main(String[] args) {
        asReadmeShows();
        oneArm();
        throughTakesNoOther();
        draws();
        drawsHaveNoSign();
        forkedAndStolen();
        failedUpward();
        caught();
        caughtFartherUp();
        failedWithOthersInIt();
        cancelledAtWork();
        cancelledAheadOfAsking();
        cancelledBeforeForked();
        cancelUpward();
        cancelAtWorkAndInRows();
        pass();
        told();
        trace();
        traceIsLong(false);
        traceIsLong(true);
        on();
        till();
        tillIsLong();
        tillByFewer();
        Check.end("RoundsTest");
    }

    private static void asReadmeShows() {
        Script.holds("what README.md shows",
            "grow 0 2(1,3) = 0; till 1 = 9; told 4 = 7; pass 7 = 7; of 0 0 = 3; of 0 3 = 6");
    }

    private static void oneArm() {
        StealingArms x = Check.with(1, "0:2(1,3)");
        Check.due("TILL", x.told(4), 9);
        Check.due("pass(9)", x.pass(9), 9);
        Check.same("THE TRACE", Check.trace(x),
            "0 0 0 0, 3 0 0 2, 6 0 3 2, 7 0 0 1, 8 0 3 1, 8 -5 3 0");
        Check.same("WORTHS", Check.each(x, 3), "6 1 3");
        Check.due("OVER", x.told(3), 1);
        Check.due("never IDLE", x.arm(0, 2), 0);
        x.pass(2);
        Check.due("IDLE", x.arm(0, 2), 2);
        Check.due("no DRAW", x.told(1), 1);
    }

    private static void throughTakesNoOther() {
        StealingArms x = Check.with(1, "0:1", "0:1");
        x.pass(4);
        Check.same("one by one", Check.trace(x), "0 0 0 1, 1 0 3 1, 2 0 0 0, 3 0 3 0");
    }

    private static void draws() {
        StealingArms x = Check.with(4, "1:5", "1:6", "2:7", "3:8");
        x.pass(1);
        // 1103527590 / 65536 is 16838, and 2 modulo 3: ARM 3; then a DRAW below 1, of ARM 1 alone
        Check.same("by draws", Check.trace(x), "0 0 1 3, 0 1 0 1, 0 2 0 2, 0 3 1 0");
        Check.due("SEED after two", x.told(1), -1770082073);
        Check.due("stole", x.arm(0, 3), 1);
        Check.due("stole, too", x.arm(3, 3), 1);
        Check.due("took", x.arm(1, 3), 0);

        StealingArms y = Check.with(2, "0:3");
        y.pass(5);
        Check.due("SEED without a draw", y.told(1), 1);
        Check.due("IDLE without a draw", y.arm(1, 2), 5);

        StealingArms z = Check.with(2, "1:3");
        z.pass(1);
        Check.due("SEED after a draw below 1", z.told(1), 1103527590);
        Check.due("stolen from the only one", z.arm(0, 1), 0);
        Check.due("nothing is left there", z.arm(1, 2), 1);
    }

    private static void drawsHaveNoSign() {
        StealingArms x = Check.with(4, "1:5", "2:7", "3:8");
        x.seed(1103527590); // then -1770082073: 38526 without a sign, 0 modulo 3
        x.pass(1);
        Check.due("the first of three", x.arm(0, 1), 0);
        StealingArms y = Check.with(3, "1:5", "2:7");
        y.seed(-1); // then -1103502900: 48697 without a sign, 1 modulo 2
        y.pass(1);
        Check.due("the second of two", y.arm(0, 1), 1);
    }

    private static void forkedAndStolen() {
        StealingArms x = Check.with(2, "0:1(2,3)");
        Check.due("TILL", x.till(2), 6);
        x.pass(6);
        Check.same("stolen as it is forked", Check.trace(x),
            "0 0 0 0, 1 1 1 1, 2 0 0 2, 3 1 3 1, 5 0 3 2, 5 -5 3 0");
        Check.due("WORTH", x.of(0, 3), 6);
    }

    private static void failedUpward() {
        StealingArms x = Check.with(1, "0:1(2,1!(4),1(3))");
        x.pass(10);
        Check.same("failed", Check.trace(x), "0 0 0 0, 2 0 0 4, 4 0 0 5, 7 0 3 5, 7 -5 3 4, 8 0 0 2, 9 0 4 2, "
            + "9 -5 5 1, 9 -5 5 3, 9 -5 4 0");
        Check.same("what they are", Check.each(x, 0), "4 5 4 5 3 3");
        Check.same("WORTHS", Check.each(x, 3), "0 0 0 0 4 3");
        Check.due("its CAUSE", x.cause(0, 1), 2);
        Check.due("OVER", x.told(3), 1);
        Check.due("the row is empty", x.arm(0, 0), 0);
    }

    private static void caught() {
        StealingArms x = Check.with(1, "0:1?(2,1!(4))");
        x.pass(7);
        Check.same("caught", Check.trace(x), "0 0 0 0, 2 0 0 2, 3 0 4 2, 4 0 0 1, 6 0 3 1, 6 -5 3 0");
        Check.same("what they are", Check.each(x, 0), "3 3 4 0");
        Check.due("WORTH without it", x.of(0, 3), 3);
        Check.due("not forked", x.of(3, 11), Check.ABSENT);
        Check.due("OVER, though one is WAITING", x.told(3), 1);
        Check.due("cancel it", x.cancel(3), 1);
        Check.due("the one above stays FAILED", x.of(2, 0), 4);

        StealingArms last = Check.with(1, "0:1?(1!,2)");
        last.pass(60);
        Check.same("caught as the last", Check.each(last, 0), "3 4 3");
        Check.due("its WORTH", last.of(0, 3), 3);
        Check.due("not FAILED", last.cause(0, 0), Check.ABSENT);
    }

    private static void caughtFartherUp() {
        StealingArms x = Check.with(1, "0:1?(9,1(9,1(1!,9)))");
        // 0 ? holds 1 and 2; 2 holds 3 and 4; 4 holds 5 (!) and 6
        x.cancel(6);
        x.pass(8);
        Check.same("up to the one that catches", Check.trace(x), "0 -5 5 6, 0 0 0 0, 2 0 0 2, 4 0 0 4, 6 0 0 5, "
            + "7 0 4 5, 7 -5 4 4, 7 -5 5 3, 7 -5 4 2");
        Check.due("it is JOINING", x.of(0, 0), 2);
        Check.same("the row", Check.row(x, 0), "1");
        Check.due("the CAUSE of the CAUSE", x.cause(2, 2), 5);
    }

    private static void failedWithOthersInIt() {
        StealingArms x = Check.with(1, "0:2!(1,1)");
        x.pass(5);
        Check.same("never forked", Check.trace(x), "0 0 0 0, 2 0 4 0");
        Check.same("what they are", Check.each(x, 0), "4 0 0");
        Check.due("OVER", x.told(3), 1);
        Check.due("cancel(0)", x.cancel(0), Check.STATE);
        Check.due("cancel(2)", x.cancel(2), 1);
        Check.same("then", Check.each(x, 0), "4 0 5");
    }

    private static void cancelledAtWork() {
        StealingArms x = Check.with(2, "0:1(9,1!)");
        x.pass(4);
        Check.same("cancelled beside", Check.trace(x), "0 0 0 0, 1 1 1 1, 2 0 0 2, 3 0 4 2, 3 -5 5 1, 3 -5 4 0");
        Check.due("at work on none", x.arm(1, 1), Check.ABSENT);
        Check.due("LEFT stays", x.of(1, 2), 8);
        Check.due("IDLE in the same ROUND", x.arm(1, 2), 2);

        StealingArms y = Check.with(2, "0:1(9,1!)", "1:1");
        y.pass(1);
        Check.tree(y, 1, "5"); // it lies behind in ARM 1's ROW
        y.pass(1); // 3 is DONE, 0 forks
        y.pass(1); // arm 0 takes 2, arm 1 takes 4
        Check.due("takes its own first", y.arm(1, 1), 4);
        y.pass(1); // 2 FAILS, 1 is CANCELLED in ARM 0's ROW
        Check.due("in no row", y.arm(0, 0), 0);
        Check.same("what they are", Check.each(y, 0), "4 5 4 3 1");
    }

    private static void cancelledAheadOfAsking() {
        StealingArms x = Check.with(1, "0:1(1(1(5)))");
        x.pass(7);
        Check.same("JOINING all the way", Check.each(x, 0), "2 2 2 1");
        Check.due("cancel(1)", x.cancel(1), 3);
        Check.same("only the one above is DONE", Check.each(x, 0), "3 5 5 5");
        Check.due("entries", x.told(6), 8);
        Check.same("by numbers", Check.trace(x), "0 0 0 0, 2 0 0 1, 4 0 0 2, 6 0 0 3, "
            + "7 -5 5 1, 7 -5 5 2, 7 -5 5 3, 7 -5 3 0");
        Check.due("WORTH", x.of(0, 3), 1);
        Check.due("at work on none", x.arm(0, 1), Check.ABSENT);
    }

    private static void cancelledBeforeForked() {
        StealingArms x = Check.with(1, "0:2(1,1)");
        Check.due("cancel(1)", x.cancel(1), 1);
        Check.due("cancel(2)", x.cancel(2), 1);
        x.pass(3);
        Check.same("DONE by itself", Check.trace(x), "0 -5 5 1, 0 -5 5 2, 0 0 0 0, 2 0 3 0");
        Check.due("WORTH", x.of(0, 3), 2);

        StealingArms y = Check.with(1, "0:2(1,3,1)");
        y.cancel(1);
        y.pass(3);
        Check.same("only the others are forked", Check.row(y, 0), "2 3");
        y.pass(60);
        Check.due("WORTH of the others", y.of(0, 3), 6);
    }

    private static void cancelUpward() {
        StealingArms x = Check.with(1, "0:1(1,2(1,1))");
        x.pass(6); // 4 at work, 3 and 1 in the row
        Check.same("the row", Check.row(x, 0), "1 3");
        Check.due("cancel(3)", x.cancel(3), 1);
        Check.due("cancel(4)", x.cancel(4), 1);
        Check.same("one is DONE by that", Check.each(x, 0), "2 0 3 5 5");
        Check.due("cancel(1)", x.cancel(1), 1);
        Check.same("and one more", Check.each(x, 0), "3 5 3 5 5");
        Check.same("WORTHS", Check.each(x, 3), "3 0 2 0 0");
        Check.due("entries", x.told(6), 8);
        Check.due("upward: no arm", x.trace(5, 1), Check.ABSENT);
        Check.due("upward: what", x.trace(5, 2), 3);
        Check.due("upward: the task", x.trace(5, 3), 2);
        Check.due("cancel(2)", x.cancel(2), Check.STATE);
        Check.due("cancel(3) again", x.cancel(3), Check.STATE);
        Check.due("cancel(5)", x.cancel(5), Check.NONE);
        Check.due("cancel(-1)", x.cancel(-1), Check.NONE);
    }

    private static void cancelAtWorkAndInRows() {
        StealingArms x = Check.with(2, "0:1(4(1),5,6)", "0:3");
        x.pass(4); // arm 0 took 5, arm 1 stole 0; forked in ROUND 1 on arm 1, which took 3
        Check.same("on the way", Check.each(x, 0), "2 0 0 0 1 3");
        Check.due("cancel(0)", x.cancel(0), 5);
        Check.same("all below, too", Check.each(x, 0), "5 5 5 5 5 3");
        Check.same("nothing in a row", Check.row(x, 0) + Check.row(x, 1), "");
        Check.due("at work on none", x.arm(1, 1), Check.ABSENT);
        Check.due("OVER", x.told(3), 1);
    }

    private static void pass() {
        StealingArms x = new StealingArms();
        Check.due("pass(0)", x.pass(0), 0);
        Check.due("pass(-1)", x.pass(-1), Check.BAD);
        Check.due("pass(61)", x.pass(61), Check.BAD);
        Check.due("pass(max)", x.pass(Integer.MAX_VALUE), Check.BAD);
        for (int k = 1; k <= 166; k++) {
            Check.due("pass(60)", x.pass(60), 60 * k);
        }
        Check.due("one too many", x.pass(40), Check.STATE);
        Check.due("as far as may be", x.pass(39), 9999);
        Check.due("pass(1) there", x.pass(1), Check.STATE);
        Check.due("pass(0) there", x.pass(0), 9999);
        Check.due("pass(61) there", x.pass(61), Check.BAD);
        Check.due("IDLE by then", x.arm(0, 2), 9999);
        Check.tree(x, 0, "1");
        Check.due("what is asked still goes on", x.on(2, 0), 1);
        Check.due("TILL there", x.told(4), 2);
    }

    private static void told() {
        StealingArms x = Check.with(3, "0:3", "0:3", "1:3");
        x.seed(-10001);
        Check.due("ROUND", x.told(0), 0);
        Check.due("SEED", x.told(1), -10001);
        Check.due("ARMS", x.told(2), 3);
        Check.due("OVER", x.told(3), 0);
        Check.due("TILL", x.told(4), 4);
        Check.due("BEST", x.told(5), 3);
        x.pass(2);
        Check.due("ROUND then", x.told(0), 2);
        Check.due("entries", x.told(6), 3);
        Check.due("TILL then", x.told(4), 2);
        Check.due("OVER then", x.told(3), 0);
        x.pass(2);
        Check.due("OVER at the end", x.told(3), 1);
        Check.due("BEST at the end", x.told(5), 1);
        Check.due("told(7)", x.told(7), Check.UNTOLD);
        Check.due("told(-1)", x.told(-1), Check.UNTOLD);
        Check.due("told(min)", x.told(Integer.MIN_VALUE), Check.UNTOLD);
    }

    private static void trace() {
        StealingArms x = new StealingArms();
        x.arms(1);
        for (int k = 0; k < 21; k++) {
            Check.tree(x, 0, "1");
        }
        x.pass(40);
        Check.due("40 entries", x.told(6), 40);
        Check.due("the oldest", x.trace(0, 3), 20);
        x.pass(2);
        Check.due("still 40", x.told(6), 40);
        for (int k = 0; k < 40; k++) {
            Check.due("ROUND of " + k, x.trace(k, 0), k + 2);
            Check.due("ARM of " + k, x.trace(k, 1), 0);
            Check.due("what of " + k, x.trace(k, 2), k % 2 == 0 ? 0 : 3);
            Check.due("TASK of " + k, x.trace(k, 3), 19 - k / 2);
        }
        Check.due("trace(40, 0)", x.trace(40, 0), Check.NONE);
        Check.due("trace(-1, 0)", x.trace(-1, 0), Check.NONE);
        Check.due("trace(0, 4)", x.trace(0, 4), Check.NONE);
        Check.due("trace(0, -1)", x.trace(0, -1), Check.NONE);
        Check.due("trace(max, max)", x.trace(Integer.MAX_VALUE, Integer.MAX_VALUE), Check.NONE);
    }

    /** More than twice 40 entries: what ARM 1 steals comes back to ARM 0's ROW, and is stolen again. */
    private static void traceIsLong(boolean undone) {
        StealingArms x = new StealingArms();
        Deque<Integer> row = new ArrayDeque<>();
        for (int k = 0; k < 12; k++) {
            Check.tree(x, 0, "9");
            row.addLast(k);
        }
        List<String> due = new ArrayList<>();
        int atWork = -1;
        for (int round = 0; round < 85; round++) {
            x.arms(2);
            x.pass(1);
            x.arms(1);
            if (round % 10 == 0) {
                atWork = row.removeLast();
                due.add(round + " 0 0 " + atWork);
            }
            if (round % 10 == 9) {
                due.add(round + " 0 3 " + atWork);
            }
            row.addLast(row.removeFirst());
            due.add(round + " 1 1 " + row.getLast());
        }
        if (undone) {
            x.image();
            x.arms(4);
            x.pass(60);
            x.undo();
        }
        Check.due("entries there were", due.size(), 102);
        Check.same("the latest 40", Check.trace(x), String.join(", ", due.subList(due.size() - 40, due.size())));
    }

    private static void on() {
        StealingArms x = Check.with(2, "0:2(1!,1)", "0:1");
        // ROUND 0: arm 0 takes 3, arm 1 steals 0; 1: 3 is DONE; 2: arm 0 is IDLE, 0 forks on arm 1;
        // 3: arm 0 steals 1, arm 1 takes 2; 4: 1 FAILS, 2 is CANCELLED, 0 FAILS, arm 1 is IDLE; 5: both are
        int[][] due = {{0, 0, 0, 0}, {0, 0, 0, 1}, {1, 1, 0, 1}, {1, 1, 1, 1}, {1, 1, 1, 2}, {4, 1, 2, 2}, {4, 1, 4, 2}};
        for (int n = 0; n < due.length; n++) {
            for (int what = 0; what < 4; what++) {
                Check.due("on(" + n + ", " + what + ")", x.on(n, what), due[n][what]);
            }
        }
        x.pass(3);
        Check.due("from then on", x.on(2, 0), 4);
        Check.due("IDLE, with what was", x.on(3, 2), 4);
        Check.due("on(60, 2)", x.on(60, 2), 4 + 2 * 57);
        Check.due("on(61, 0)", x.on(61, 0), Check.BAD);
        Check.due("on(-1, 0)", x.on(-1, 0), Check.BAD);
        Check.due("on(0, 4)", x.on(0, 4), Check.NONE);
        Check.due("on(0, -1)", x.on(0, -1), Check.NONE);
        Check.due("on(61, 4)", x.on(61, 4), Check.NONE);
    }

    private static void till() {
        StealingArms x = Check.with(2, "0:3", "0:3");
        Check.due("till(1)", x.till(1), 8);
        Check.due("till(2)", x.till(2), 4);
        Check.due("till(3)", x.till(3), 4);
        Check.due("till(4)", x.till(4), 4);
        Check.due("BEST, of several the least number", x.told(5), 2);
        Check.due("till(0)", x.till(0), Check.BAD);
        Check.due("till(5)", x.till(5), Check.BAD);
        Check.due("till(-1)", x.till(-1), Check.BAD);
        Check.due("ARMS stay", x.told(2), 2);
    }

    private static void tillIsLong() {
        StealingArms x = new StealingArms();
        x.arms(1);
        for (int k = 0; k < 30; k++) {
            Check.tree(x, 0, "9");
        }
        Check.due("300", x.told(4), 300);
        Check.due("BEST", x.told(5), 4);
        Check.tree(x, 0, "1");
        Check.due("302: more", x.told(4), Check.ABSENT);
        Check.due("more by 1", x.till(1), Check.ABSENT);
        Check.due("BEST of the others", x.told(5), 4);
        x.pass(1);
        Check.due("301: more", x.told(4), Check.ABSENT);
        x.pass(1);
        Check.due("300 again", x.told(4), 300);
    }

    private static void tillByFewer() {
        StealingArms x = Check.with(3, "0:2", "1:9(1)", "2:1");
        x.pass(4); // 0 and 3 are DONE, 1 has 6 LEFT
        Check.due("LEFT", x.of(1, 2), 6);
        Check.due("by 3: ARM 2 steals 2 as it is forked", x.till(3), 7);
        Check.due("by 1: it is WAITING again", x.till(1), 9);
        Check.due("by 2: ARM 0 steals it a ROUND later", x.till(2), 8);
        Check.due("BEST", x.told(5), 3);
        Check.due("it is still at work", x.of(1, 10), 1);
    }
}
