/** What the project's tests share: answers that are due, texts fed, and what can be seen of an object. */
final class Check {
    static final int ABSENT = -5, UNTOLD = -10001, NOTHING = -11, CAST = -12, PLACE = -13, SIZE = -14;
    static final int NONE = StealingArms.NONE, BAD = StealingArms.BAD;
    static final int STATE = StealingArms.STATE, FULL = StealingArms.FULL;
    static final long NO = StealingArms.NO;

    private static int wrong = 0;
    private static int asked = 0;

    private Check() {
    }

    static void due(String call, long got, long want) {
        asked++;
        if (got != want) {
            wrong++;
            System.out.println(call + " answered " + got + ", due is " + want);
        }
    }

    static void same(String what, String got, String want) {
        asked++;
        if (!got.equals(want)) {
            wrong++;
            System.out.println(what + ": it was\n" + want + "\nand is\n" + got);
        }
    }

    static boolean allRightSoFar() {
        return wrong == 0;
    }

    static void end(String test) {
        System.out.println(test + ": " + asked + " answers looked at, " + wrong + " not as due");
        if (wrong != 0) {
            System.exit(1);
        }
    }

    static void feed(StealingArms x, String text) {
        for (int k = 0; k < text.length(); k++) {
            x.feed(text.charAt(k));
        }
    }

    static int tree(StealingArms x, int arm, String text) {
        feed(x, text);
        return x.tree(arm);
    }

    /** A new object with n ARMS and these TREES, each on the ARM that its first digit tells: "0:2(1,3)". */
    static StealingArms with(int n, String... trees) {
        StealingArms x = new StealingArms();
        x.arms(n);
        for (String each : trees) {
            tree(x, each.charAt(0) - '0', each.substring(2));
        }
        return x;
    }

    /** The entries of THE TRACE as "ROUND ARM what TASK", one after another. */
    static String trace(StealingArms x) {
        StringBuilder all = new StringBuilder();
        for (int k = 0; k < x.told(6); k++) {
            all.append(k == 0 ? "" : ", ");
            for (int what = 0; what < 4; what++) {
                all.append(what == 0 ? "" : " ").append(x.trace(k, what));
            }
        }
        return all.toString();
    }

    /** The TASKS of a ROW, the far end first. */
    static String row(StealingArms x, int arm) {
        StringBuilder all = new StringBuilder();
        for (int k = 0; k < x.arm(arm, 0); k++) {
            all.append(k == 0 ? "" : " ").append(x.arm(arm, 10 + k));
        }
        return all.toString();
    }

    /** What 'what' of each TASK is, by numbers. */
    static String each(StealingArms x, int what) {
        StringBuilder all = new StringBuilder();
        for (int task = 0; task < x.count(0); task++) {
            all.append(task == 0 ? "" : " ").append(x.of(task, what));
        }
        return all.toString();
    }
}
