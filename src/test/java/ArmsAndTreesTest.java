/** Promises 1 to 8: a new object, arms, seed, feed, tree, of, cause, arm. */
public final class ArmsAndTreesTest {
    public static void main(String[] args) {
        constants();
        newObject();
        arms();
        armsAreFewer();
        armsAreMoreAgain();
        allInOneRow();
        seed();
        feed();
        treesThatAreOnes();
        faults();
        faultAtTheEndOfAFullText();
        tooManyTasks();
        treesOnRows();
        of();
        ofOnTheWay();
        cause();
        arm();
        Check.end("ArmsAndTreesTest");
    }

    private static void constants() {
        Check.due("NONE", StealingArms.NONE, -1);
        Check.due("BAD", StealingArms.BAD, -2);
        Check.due("STATE", StealingArms.STATE, -3);
        Check.due("FULL", StealingArms.FULL, -4);
        Check.due("NO", StealingArms.NO, Long.MIN_VALUE);
    }

    private static void newObject() {
        StealingArms x = new StealingArms();
        Check.due("new: ROUND", x.told(0), 0);
        Check.due("new: SEED", x.told(1), 1);
        Check.due("new: ARMS", x.told(2), 2);
        Check.due("new: OVER", x.told(3), 1);
        Check.due("new: TILL", x.told(4), 0);
        Check.due("new: BEST", x.told(5), 1);
        Check.due("new: THE TRACE", x.told(6), 0);
        for (int what = 0; what < 6; what++) {
            Check.due("new: count " + what, x.count(what), 0);
        }
        for (int arm = 0; arm < 2; arm++) {
            Check.due("new: ROW", x.arm(arm, 0), 0);
            Check.due("new: at work", x.arm(arm, 1), Check.ABSENT);
            Check.due("new: IDLE", x.arm(arm, 2), 0);
            Check.due("new: STOLE", x.arm(arm, 3), 0);
        }
        Check.due("new: arm 2", x.arm(2, 0), Check.NONE);
        Check.due("new: undo", x.undo(), Check.STATE);
        Check.due("new: a tape", x.read(0, 0), Check.NO);
        Check.due("new: no task", x.of(0, 0), Check.NONE);
    }

    private static void arms() {
        StealingArms x = new StealingArms();
        Check.due("arms(4)", x.arms(4), 2);
        Check.due("arms(1)", x.arms(1), 4);
        Check.due("arms(0)", x.arms(0), Check.BAD);
        Check.due("arms(5)", x.arms(5), Check.BAD);
        Check.due("arms(-1)", x.arms(-1), Check.BAD);
        Check.due("arms(min)", x.arms(Integer.MIN_VALUE), Check.BAD);
        Check.due("arms(1) again", x.arms(1), 1);
        Check.due("told(2)", x.told(2), 1);
        Check.due("arm(1, 0)", x.arm(1, 0), Check.NONE);
    }

    private static void armsAreFewer() {
        StealingArms x = Check.with(3, "0:9", "0:4", "1:9", "1:8", "1:7", "2:6", "2:5");
        x.pass(3); // at work on 1, 4 and 6
        Check.due("fewer: at work", x.arm(2, 1), 6);
        Check.due("fewer: arms(1)", x.arms(1), 3);
        Check.same("fewer: ROW 0", Check.row(x, 0), "0 4 2 3 6 5");
        Check.due("fewer: still at work", x.arm(0, 1), 1);
        Check.same("fewer: what they are", Check.each(x, 0), "0 1 0 0 0 0 0");
        Check.same("fewer: LEFT", Check.each(x, 2), "9 2 9 8 5 6 3");
        Check.same("fewer: at work", Check.each(x, 10), "-5 0 -5 -5 -5 -5 -5");
        Check.same("fewer: ROWS", Check.each(x, 11), "0 -5 0 0 0 0 0");
        Check.due("fewer: THE TRACE", x.told(6), 3);
        x.pass(3);
        Check.due("fewer: takes the near end", x.arm(0, 1), 5);
    }

    private static void armsAreMoreAgain() {
        StealingArms x = Check.with(2, "0:9", "0:9");
        x.pass(3);
        Check.due("more: STOLE", x.arm(1, 3), 1);
        x.arms(1);
        x.arms(4);
        for (int arm = 1; arm < 4; arm++) {
            for (int what = 0; what < 4; what++) {
                Check.due("more: arm " + arm + " what " + what, x.arm(arm, what), what == 1 ? Check.ABSENT : 0);
            }
        }
        Check.due("more: ROW 0", x.arm(0, 10), 0);

        StealingArms y = Check.with(2, "0:9");
        y.pass(4);
        Check.due("more: IDLE", y.arm(1, 2), 4);
        y.arms(1);
        Check.due("more: IDLE of all is of those there", y.on(0, 2), 0);
        y.arms(2);
        Check.due("more: IDLE at first", y.arm(1, 2), 0);
    }

    private static void allInOneRow() {
        StealingArms x = new StealingArms();
        x.arms(4);
        for (int k = 0; k < 32; k++) {
            Check.tree(x, k % 4, "9");
        }
        Check.due("of four", x.arms(1), 4);
        Check.due("32 in one row", x.arm(0, 0), 32);
        Check.same("ARM by ARM", Check.row(x, 0), "0 4 8 12 16 20 24 28 1 5 9 13 17 21 25 29 "
            + "2 6 10 14 18 22 26 30 3 7 11 15 19 23 27 31");
        Check.due("the near end", x.arm(0, 41), 31);
        Check.due("beyond it", x.arm(0, 42), Check.ABSENT);
    }

    private static void seed() {
        StealingArms x = new StealingArms();
        Check.due("seed(7)", x.seed(7), 1);
        Check.due("seed(min)", x.seed(Integer.MIN_VALUE), 7);
        Check.due("seed(-1)", x.seed(-1), Integer.MIN_VALUE);
        Check.due("told(1)", x.told(1), -1);
    }

    private static void feed() {
        StealingArms x = new StealingArms();
        Check.due("feed(-1)", x.feed(-1), Check.BAD);
        Check.due("feed(128)", x.feed(128), Check.BAD);
        for (int k = 1; k <= 100; k++) {
            Check.due("feed " + k, x.feed(k % 2 == 0 ? 0 : 127), k);
        }
        Check.due("feed, full", x.feed(49), Check.FULL);
        Check.due("feed, bad and full", x.feed(128), Check.BAD);
        Check.due("count(5)", x.count(5), 100);
        Check.due("tree", x.tree(0), -10);
        Check.due("count(5) then", x.count(5), 0);
        Check.due("feed then", x.feed(49), 1);
    }

    private static void treesThatAreOnes() {
        String[] trees = {"1", "9", "1!", "1?", "5!(2)", "1?(2,3)", "1(1,1,1,1,1,1)", "1(1(1(1(1))))",
            "1(1(1,1,1,1,1,1),1)", "1(2!,3?(4),5)"};
        int[] tasks = {1, 1, 1, 1, 2, 3, 7, 5, 9, 5};
        for (int k = 0; k < trees.length; k++) {
            StealingArms x = new StealingArms();
            Check.due("a tree: " + trees[k], Check.tree(x, 1, trees[k]), 0);
            Check.due("its tasks: " + trees[k], x.count(0), tasks[k]);
            Check.due("the text then", x.count(5), 0);
        }
    }

    private static void faults() {
        String[] texts = {"", "0", "a", " 1", "1 ", "12", "1,2", "1)", "1!!", "1!?", "1?!", "1(", "1()", "1(2",
            "1(2,", "1(2,)", "1(2,,3)", "1(2))", "1(2)3", "1(2)(3)", "1(2)!", "1(2),3", "1(0)", "1(2!", "!", "(1)",
            "1(1,1,1,1,1,1,1)", "1(1,1,1,1,1,1(1,1,1,1,1,1,1))", "1(1(1(1(1(1)))))", "1(1(1(1(1!(1)))))",
            "1(1(1(1(1?", "1\n"};
        int[] places = {0, 0, 0, 0, 1, 1, 1, 1, 2, 2, 2, 2, 2, 3,
            4, 4, 4, 4, 4, 4, 4, 4, 2, 4, 0, 0,
            13, 25, 9, 10,
            10, 1};
        StealingArms x = new StealingArms();
        for (int k = 0; k < texts.length; k++) {
            Check.due("a fault: " + texts[k], Check.tree(x, 0, texts[k]), -10 - places[k]);
            Check.due("the text then", x.count(5), 0);
        }
        Check.due("no tasks by faults", x.count(0), 0);
        Check.due("nothing in the row", x.arm(0, 0), 0);
    }

    private static void faultAtTheEndOfAFullText() {
        String part = "1(1!,1!,1!,1!,1!,1!)";
        String text = "1(" + part + "," + part + "," + part + "," + part + ",1(1!,1,1,1,1,1";
        StealingArms x = new StealingArms();
        Check.due("as long as may be", text.length(), 100);
        Check.due("too early an end", Check.tree(x, 0, text), -110);
    }

    private static void tooManyTasks() {
        String six = "1(1,1,1,1,1)";
        String many = "1(" + six + "," + six + "," + six + "," + six + "," + six + "," + six + ")";
        StealingArms x = new StealingArms();
        Check.due("37 tasks", Check.tree(x, 0, many), Check.FULL);
        Check.due("the text then", x.count(5), 0);
        Check.due("no tasks", x.count(0), 0);
        String five = "1(" + six + "," + six + "," + six + "," + six + "," + six + ")";
        Check.due("31 tasks", Check.tree(x, 0, five), 0);
        Check.due("33 tasks", Check.tree(x, 0, "1(1)"), Check.FULL);
        Check.due("the text then, too", x.count(5), 0);
        Check.due("32 tasks", Check.tree(x, 1, "7!"), 31);
        Check.due("one too many", Check.tree(x, 1, "1"), Check.FULL);
        Check.due("a fault ahead of that", Check.tree(x, 1, "1("), -12);
        Check.due("no such arm ahead of that", Check.tree(x, 2, "1("), Check.NONE);
        Check.due("the text stays", x.count(5), 2);
        Check.due("still 32", x.count(0), 32);
        Check.due("of(32, 0)", x.of(32, 0), Check.NONE);
    }

    private static void treesOnRows() {
        StealingArms x = new StealingArms();
        Check.due("first", Check.tree(x, 0, "2(1,3)"), 0);
        Check.due("second", Check.tree(x, 0, "4"), 3);
        Check.due("third", Check.tree(x, 1, "5(6)"), 4);
        Check.due("fourth", Check.tree(x, 0, "1"), 6);
        Check.same("row 0", Check.row(x, 0), "0 3 6");
        Check.same("row 1", Check.row(x, 1), "4");
        Check.feed(x, "8");
        Check.due("no arm 2", x.tree(2), Check.NONE);
        Check.due("no arm -1", x.tree(-1), Check.NONE);
        Check.due("it stays", x.count(5), 1);
        Check.due("fifth", x.tree(1), 7);
        Check.same("row 1 then", Check.row(x, 1), "4 7");
    }

    private static void of() {
        StealingArms x = new StealingArms();
        Check.tree(x, 1, "6");
        Check.tree(x, 0, "3(2,1?(5,2!(4)),4)");
        Check.same("what", Check.each(x, 0), "0 0 0 0 0 0 0 0");
        Check.same("WORK", Check.each(x, 1), "6 3 2 1 5 2 4 4");
        Check.same("LEFT", Check.each(x, 2), "6 3 2 1 5 2 4 4");
        Check.same("WORTH", Check.each(x, 3), "0 0 0 0 0 0 0 0");
        Check.same("in", Check.each(x, 4), "-5 -5 1 1 3 3 5 1");
        Check.same("how many in it", Check.each(x, 5), "0 3 0 2 0 1 0 0");
        Check.same("fails, catches", Check.each(x, 6), "0 0 0 2 0 1 0 0");
        Check.same("SPAN", Check.each(x, 7), "6 10 2 7 5 6 4 4");
        Check.same("ALL", Check.each(x, 8), "6 21 2 12 5 6 4 4");
        Check.same("DEPTH", Check.each(x, 9), "0 0 1 1 2 2 3 1");
        Check.same("on which arm", Check.each(x, 10), "-5 -5 -5 -5 -5 -5 -5 -5");
        Check.same("in whose row", Check.each(x, 11), "1 0 -5 -5 -5 -5 -5 -5");
        Check.due("of(-1, 0)", x.of(-1, 0), Check.NONE);
        Check.due("of(8, 0)", x.of(8, 0), Check.NONE);
        Check.due("of(0, 12)", x.of(0, 12), Check.NONE);
        Check.due("of(0, -1)", x.of(0, -1), Check.NONE);
        Check.due("of(max, max)", x.of(Integer.MAX_VALUE, Integer.MAX_VALUE), Check.NONE);
    }

    private static void ofOnTheWay() {
        StealingArms x = Check.with(2, "0:2(1(3),4!)", "1:1");
        x.pass(1);
        Check.same("taken", Check.each(x, 0), "1 0 0 0 1");
        Check.same("LEFT when taken", Check.each(x, 2), "2 1 3 4 1");
        Check.same("on which arm", Check.each(x, 10), "0 -5 -5 -5 1");
        Check.same("in no row", Check.each(x, 11), "-5 -5 -5 -5 -5");
        x.pass(1);
        Check.same("the other is done", Check.each(x, 0), "1 0 0 0 3");
        Check.same("its WORTH", Check.each(x, 3), "0 0 0 0 1");
        Check.same("LEFT", Check.each(x, 2), "1 1 3 4 0");
        x.pass(1); // forked by arm 0, and arm 1 steals 1 in the same ROUND
        Check.same("forked", Check.each(x, 0), "2 1 0 0 3");
        Check.same("stolen by", Check.each(x, 10), "-5 1 -5 -5 -5");
        Check.same("in whose row", Check.each(x, 11), "-5 -5 -5 0 -5");
        x.pass(30);
        // 3 FAILS in ROUND 7, ahead of 2, which would be THROUGH in the same one
        Check.same("at the end", Check.each(x, 0), "4 5 5 4 3");
        Check.same("WORTHS at the end", Check.each(x, 3), "0 0 0 0 1");
        Check.same("LEFT at the end", Check.each(x, 2), "0 0 1 0 0");
    }

    private static void cause() {
        StealingArms x = Check.with(1, "0:1(1(1(1!)),9)", "0:2");
        Check.due("not yet", x.cause(3, 0), Check.ABSENT);
        x.pass(60);
        // 5 is taken first and DONE; 4 too; then 1, 2 and 3
        Check.same("what they are", Check.each(x, 0), "4 4 4 4 3 3");
        int[][] due = {{0, 1, 2, 3, -5, -5}, {1, 2, 3, -5}, {2, 3, -5}, {3, -5, -5}, {-5, -5}, {-5, -5}};
        for (int task = 0; task < due.length; task++) {
            for (int k = 0; k < due[task].length; k++) {
                Check.due("cause(" + task + ", " + k + ")", x.cause(task, k), due[task][k]);
            }
        }
        StealingArms deep = Check.with(1, "0:1(1(1(1(1!))))");
        Check.same("DEPTHS", Check.each(deep, 9), "0 1 2 3 4");
        Check.same("SPANS", Check.each(deep, 7), "5 4 3 2 1");
        deep.pass(10);
        for (int k = 0; k < 5; k++) {
            Check.due("from the ROOT to the deepest " + k, deep.cause(0, k), k);
        }
        Check.due("cause(0, max)", x.cause(0, Integer.MAX_VALUE), Check.ABSENT);
        Check.due("cause(0, -1)", x.cause(0, -1), Check.NONE);
        Check.due("cause(4, -1)", x.cause(4, -1), Check.NONE);
        Check.due("cause(6, 0)", x.cause(6, 0), Check.NONE);
        Check.due("cause(-1, 0)", x.cause(-1, 0), Check.NONE);
    }

    private static void arm() {
        StealingArms x = Check.with(2, "0:3", "0:4", "0:5");
        Check.due("how many", x.arm(0, 0), 3);
        Check.due("the far end", x.arm(0, 10), 0);
        Check.due("the near end", x.arm(0, 12), 2);
        Check.due("beyond it", x.arm(0, 13), Check.ABSENT);
        Check.due("far beyond it", x.arm(0, Integer.MAX_VALUE), Check.ABSENT);
        x.pass(5);
        // arm 0 takes 2 (5 long), arm 1 steals 0 (3 long), DONE in ROUND 3, steals 1 in ROUND 4
        Check.due("at work", x.arm(0, 1), 2);
        Check.due("at work, too", x.arm(1, 1), 1);
        Check.due("stole", x.arm(0, 3), 0);
        Check.due("stole twice", x.arm(1, 3), 2);
        Check.due("empty", x.arm(0, 0), 0);
        Check.due("nothing at 0", x.arm(0, 10), Check.ABSENT);
        x.pass(2); // arm 0 is THROUGH in ROUND 5, and idle in 6
        Check.due("idle", x.arm(0, 2), 1);
        Check.due("not idle", x.arm(1, 2), 0);
        Check.due("at work on none", x.arm(0, 1), Check.ABSENT);
        for (int what = 4; what < 10; what++) {
            Check.due("arm(0, " + what + ")", x.arm(0, what), Check.NONE);
        }
        Check.due("arm(0, -1)", x.arm(0, -1), Check.NONE);
        Check.due("arm(2, 0)", x.arm(2, 0), Check.NONE);
        Check.due("arm(-1, 0)", x.arm(-1, 0), Check.NONE);
        Check.due("arm(3, 10)", x.arm(3, 10), Check.NONE);
    }
}
