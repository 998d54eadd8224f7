/** Promises 19 to 22: plan, ends, book, looked. */
public final class PlansAndBooksTest {
    public static void main(String[] args) {
        plan();
        ends();
        endsBySeeds();
        endsByCancels();
        book();
        looked();
        Check.end("PlansAndBooksTest");
    }

    private static void plan() {
        StealingArms x = Check.with(1, "0:1(1)");
        Check.due("plan(3, 0)", x.plan(3, 0), Check.NONE);
        Check.due("plan(-2, 0)", x.plan(-2, 0), Check.NONE);
        Check.due("plan(1, 2)", x.plan(1, 2), Check.NONE);
        Check.due("plan(1, -1)", x.plan(1, -1), Check.NONE);
        Check.due("plan(0, 99)", x.plan(0, 99), 1);
        Check.due("plan(0, min)", x.plan(0, Integer.MIN_VALUE), 2);
        Check.due("plan(1, 1)", x.plan(1, 1), 3);
        Check.due("plan(2, min)", x.plan(2, Integer.MIN_VALUE), 4);
        for (int k = 5; k <= 10; k++) {
            Check.due("plan " + k, x.plan(2, k), k);
        }
        Check.due("plan, full", x.plan(0, 0), Check.FULL);
        Check.due("plan, none and full", x.plan(1, 2), Check.NONE);
        Check.due("count(3)", x.count(3), 10);
        Check.due("plan(-1, 99)", x.plan(-1, 99), 0);
        Check.due("count(3) then", x.count(3), 0);
        Check.due("plan anew", x.plan(1, 0), 1);
    }

    private static void ends() {
        StealingArms x = Check.with(1, "0:1(2!,3)", "0:1");
        Check.due("by no rows", x.ends(0), 0);
        int[] ended = {0, 1, 1, 1, 1, 1, 1, 2, 2, 2};
        int[] worths = {0, 1, 1, 1, 1, 1, 1, 4, 4, 4};
        // 3 in ROUND 1; 0 is THROUGH in 3; 2 in ROUND 7; 1 FAILS in 10
        for (int k = 0; k < 10; k++) {
            x.plan(0, 0);
            Check.due("ended by " + (k + 1), x.ends(0), ended[k]);
            Check.due("worths by " + (k + 1), x.ends(1), worths[k]);
        }
        x.pass(1);
        Check.due("from then on: 0 and 1, too", x.ends(0), 4);
        Check.due("worths then", x.ends(1), 4);
        Check.due("ends(2)", x.ends(2), Check.NONE);
        Check.due("ends(-1)", x.ends(-1), Check.NONE);
        Check.due("ROUND stays", x.told(0), 1);
    }

    private static void endsBySeeds() {
        // by SEED 1103527590 arm 0 draws arm 1 of three, by SEED 1 it draws arm 3
        StealingArms x = Check.with(4, "1:1", "1:3", "2:3", "2:9", "3:3", "3:9");
        x.seed(1);
        x.plan(0, 0);
        x.plan(0, 0);
        Check.due("by its own SEED", x.ends(0), 0);
        x.plan(-1, 0);
        x.plan(2, 1103527590);
        x.plan(0, 0);
        x.plan(0, 0);
        Check.due("by the plan's", x.ends(0), 1);
        Check.due("SEED stays", x.told(1), 1);
    }

    private static void endsByCancels() {
        StealingArms x = Check.with(1, "0:1(2,3(1))", "0:4");
        x.plan(1, 2);
        Check.due("with what is below", x.ends(0), 2);
        x.plan(1, 2);
        Check.due("ENDED already", x.ends(0), 2);
        x.plan(1, 3);
        x.plan(1, 4);
        Check.due("another, too", x.ends(0), 3);
        x.plan(1, 1);
        x.plan(0, 0);
        x.plan(0, 0);
        Check.due("DONE by itself", x.ends(0), 5);
        Check.due("its worth", x.ends(1), 1);
        Check.same("nothing has been", Check.each(x, 0), "0 0 0 0 0");
        Check.due("count(1)", x.count(1), 0);
    }

    private static void book() {
        StealingArms x = Check.with(1, "0:1(1)");
        Check.due("book(2, 0)", x.book(2, 0), Check.NONE);
        Check.due("book(-2, 9)", x.book(-2, 9), Check.NONE);
        Check.due("book(0, 6)", x.book(0, 6), Check.BAD);
        Check.due("book(0, -1)", x.book(0, -1), Check.BAD);
        for (int k = 1; k <= 8; k++) {
            Check.due("book " + k, x.book(k % 2, k % 6), k);
        }
        Check.due("book, full", x.book(0, 0), Check.FULL);
        Check.due("book, bad and full", x.book(0, 6), Check.BAD);
        Check.due("book, none and full", x.book(2, 6), Check.NONE);
        Check.due("count(4)", x.count(4), 8);
        Check.due("book(-1, 99)", x.book(-1, 99), 0);
        Check.due("count(4) then", x.count(4), 0);
        Check.due("book anew", x.book(0, 5), 1);
    }

    private static void looked() {
        StealingArms x = Check.with(1, "0:1(1!,1)", "0:5");
        Check.due("no rows", x.looked(), Check.ABSENT);
        x.book(0, 0);
        x.book(1, 0);
        x.book(3, 0);
        Check.due("as it is", x.looked(), Check.ABSENT);
        x.book(3, 1);
        Check.due("otherwise by the fourth", x.looked(), 3);
        x.pass(1);
        Check.due("otherwise by the third", x.looked(), 2);
        x.book(-1, 0);
        x.pass(60);
        x.book(0, 4);
        x.book(1, 4);
        x.book(2, 3);
        x.book(3, 3);
        Check.due("as it is at the end", x.looked(), Check.ABSENT);
        x.book(2, 5);
        Check.due("otherwise by the last", x.looked(), 4);
        x.book(-1, 0);
        x.book(3, 0);
        x.book(3, 3);
        Check.due("otherwise by the first", x.looked(), 0);
    }
}
