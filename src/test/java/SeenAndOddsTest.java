/** Promises 15 to 18: see, seeds, odds, mean. */
public final class SeenAndOddsTest {
    public static void main(String[] args) {
        see();
        seedsOfOneDraw();
        seedsOfAll();
        seedsFromNowOn();
        seedsByTheFirstFortyEntries();
        seedsWithinSixtyRounds();
        odds();
        oddsByPassing();
        mean();
        Check.end("SeenAndOddsTest");
    }

    private static void see() {
        StealingArms x = Check.with(1, "0:1(1)");
        Check.due("see(2, 0)", x.see(2, 0), Check.NONE);
        Check.due("see(-2, 0)", x.see(-2, 0), Check.NONE);
        Check.due("see(2, 40)", x.see(2, 40), Check.NONE);
        Check.due("see(1, 40)", x.see(1, 40), Check.BAD);
        Check.due("see(1, -1)", x.see(1, -1), Check.BAD);
        Check.due("see(1, 39)", x.see(1, 39), 1);
        for (int k = 2; k <= 5; k++) {
            Check.due("see " + k, x.see(0, 0), k);
        }
        Check.due("see, full", x.see(0, 0), Check.FULL);
        Check.due("see, bad and full", x.see(0, 40), Check.BAD);
        Check.due("count(2)", x.count(2), 5);
        Check.due("see(-1, 99)", x.see(-1, 99), 0);
        Check.due("count(2) then", x.count(2), 0);
        Check.due("see(-1, min)", x.see(-1, Integer.MIN_VALUE), 0);
        Check.due("see anew", x.see(0, 0), 1);
    }

    /** Which of n a DRAW is, were the SEED s. */
    private static int draw(int s, int n) {
        return (int) (((s * 1103515245L + 12345L) & 0xffffffffL) >> 16) % n;
    }

    private static void seedsOfOneDraw() {
        StealingArms x = Check.with(4, "1:1", "2:1", "3:1");
        x.seed(17);
        for (int task = 0; task < 3; task++) {
            int due = 0;
            for (int s = 0; s <= 30; s++) {
                due |= draw(s, 3) == task ? 1 << s : 0;
            }
            Check.due("see", x.see(task, 0), 1);
            Check.due("seeds by which arm 0 steals " + task, x.seeds(), due);
            Check.due("not empty", due == 0 ? 0 : 1, 1);
            x.see(-1, 0);
        }
        Check.due("SEED stays", x.told(1), 17);
    }

    private static void seedsOfAll() {
        StealingArms x = Check.with(1, "0:2", "0:1");
        Check.due("none seen", x.seeds(), Integer.MAX_VALUE);
        x.see(1, 0);
        x.see(1, 1);
        x.see(0, 2);
        Check.due("as it goes by all", x.seeds(), Integer.MAX_VALUE);
        x.see(0, 3);
        Check.due("all four", x.seeds(), Integer.MAX_VALUE);
        x.see(0, 1);
        Check.due("not so, and so", x.seeds(), 0);
        x.see(-1, 0);
        x.see(0, 4);
        Check.due("no such entry comes", x.seeds(), 0);
    }

    private static void seedsFromNowOn() {
        StealingArms x = Check.with(1, "0:2", "0:1");
        x.see(0, 0);
        Check.due("not yet", x.seeds(), 0);
        x.pass(2);
        Check.due("the next one now", x.seeds(), Integer.MAX_VALUE);
        x.pass(1);
        Check.due("its end is the next", x.seeds(), Integer.MAX_VALUE);
        x.pass(60);
        Check.due("no more come", x.seeds(), 0);
    }

    private static void seedsByTheFirstFortyEntries() {
        StealingArms x = new StealingArms();
        x.arms(1);
        for (int k = 0; k < 24; k++) {
            Check.tree(x, 0, "1");
        }
        x.pass(3); // 23 is DONE, 22 at work: 46 entries more, the first told the end of 22
        x.see(22, 0);
        x.see(21, 1);
        x.see(21, 2);
        x.see(2, 39);
        Check.due("counted from now on, though more than 40 come", x.seeds(), Integer.MAX_VALUE);
    }

    private static void seedsWithinSixtyRounds() {
        StealingArms x = new StealingArms();
        x.arms(1);
        for (int k = 0; k < 7; k++) {
            Check.tree(x, 0, "9");
        }
        x.see(1, 11); // DONE in ROUND 59, the 60th
        Check.due("within 60", x.seeds(), Integer.MAX_VALUE);
        x.see(0, 12);
        Check.due("beyond 60", x.seeds(), 0);
    }

    private static void odds() {
        StealingArms x = Check.with(1, "0:3");
        Check.due("odds(3, 0)", x.odds(3, 0), 0);
        Check.due("odds(3, 1)", x.odds(3, 1), 1);
        Check.due("odds(4, 0)", x.odds(4, 0), 1);
        Check.due("odds(4, 1)", x.odds(4, 1), 1);
        Check.due("odds(0, 0)", x.odds(0, 0), 0);
        Check.due("odds(60, 0)", x.odds(60, 0), 1);
        Check.due("odds(61, 0)", x.odds(61, 0), Check.NO);
        Check.due("odds(-1, 0)", x.odds(-1, 0), Check.NO);
        Check.due("odds(0, 2)", x.odds(0, 2), Check.NO);
        Check.due("odds(0, -1)", x.odds(0, -1), Check.NO);
        x.pass(4);
        Check.due("over now", x.odds(0, 0), 1);
        Check.due("over now, below", x.odds(0, 1), 1);

        // by 8 ROUNDS if arm 0 draws the long one of the two that lie at the far ends
        StealingArms y = Check.with(3, "1:7", "1:1", "2:1", "2:1");
        int likely = 0;
        for (int s = 0; s < 20; s++) {
            likely += draw(s, 2) == 0 ? 1 : 0;
        }
        int divisor = 20;
        while (likely % divisor != 0 || 20 % divisor != 0) {
            divisor--;
        }
        Check.due("a fraction, above", y.odds(8, 0), likely / divisor);
        Check.due("a fraction, below", y.odds(8, 1), 20 / divisor);
        Check.due("between", likely > 0 && likely < 20 ? 1 : 0, 1);
    }

    /** ODDS, from an image on by each SEED. */
    private static void oddsByPassing() {
        for (int n = 5; n < 20; n++) {
            StealingArms x = Check.with(3, "1:2(1(2,1!),3?(2!,4,1),1)", "2:1(5,2,1(1,1))", "1:3");
            x.seed(99);
            x.pass(1);
            int seed = x.told(1);
            x.image();
            int over = 0;
            for (int s = 0; s < 20; s++) {
                x.seed(s);
                x.pass(n);
                over += x.told(3);
                x.undo();
            }
            Check.due("above by " + n, x.odds(n, 0) * 20, over * x.odds(n, 1));
            Check.due("in lowest terms", divisor(x.odds(n, 0), x.odds(n, 1)), 1);
            Check.due("SEED stays", x.told(1), seed);
        }
    }

    private static long divisor(long a, long b) {
        return b == 0 ? a : divisor(b, a % b);
    }

    private static void mean() {
        StealingArms x = Check.with(1, "0:2!", "0:1(3,2)", "0:2");
        Check.due("none yet", x.mean(0), Check.NO);
        Check.due("none yet, below", x.mean(1), Check.NO);
        x.pass(3);
        Check.due("one of 2", x.mean(0), 2);
        Check.due("one, below", x.mean(1), 1);
        x.pass(60); // WORTHS 2, 3, 2 and 6: 13 by 4
        Check.due("above", x.mean(0), 13);
        Check.due("below", x.mean(1), 4);
        Check.due("mean(2)", x.mean(2), Check.NO);
        Check.due("mean(-1)", x.mean(-1), Check.NO);
        Check.tree(x, 0, "7");
        Check.tree(x, 0, "4");
        x.pass(60); // 24 by 6
        Check.due("in lowest terms", x.mean(0), 4);
        Check.due("in lowest terms, below", x.mean(1), 1);
    }
}
