/** What is asked and told by hand; promises 11, 13 to 22: each sentence that names an edge, by itself. */
public final class AskedEdgesTest {
    private static final String ONE_ARM = "arms 1; ";
    /** ARM 0 steals TASK 0, 2 or 4 first, by a DRAW below 3; those are the first entry. */
    private static final String THREE = "arms 4; grow 1 9; grow 1 9; grow 2 9; grow 2 9; grow 3 9; grow 3 9; ";
    private static final int IF_0 = 918632065, IF_1 = 19693932, IF_2 = 1209157650, ALL = Integer.MAX_VALUE;
    private static final String SIX_NINES = "times 6 grow 0 9; ";
    /** On one ARM 300 ROUNDS long. */
    private static final String LONG = ONE_ARM + "times 30 grow 0 9; ";

    public static void main(String[] args) {
        told();
        over();
        on();
        onRefused();
        till();
        tillByArms();
        best();
        see();
        seeRefused();
        seeds();
        seedsWithin();
        odds();
        oddsRefused();
        mean();
        plan();
        planRefused();
        ends();
        book();
        bookRefused();
        looked();
        Check.end("AskedEdgesTest");
    }

    private static void told() {
        Script.holds("told: what 0 .. 6; -10001, NONE",
            "told 0 = 0; told 6 = 0; told 7 = -10001; told -1 = -10001; told min = -10001; told max = -10001");
        Script.holds("told 0: ROUND", "pass 7; told 0 = 7");
        Script.holds("told 1: SEED may be anything",
            "seed -10001; told 1 = -10001", "seed -1; told 1 = -1", "seed min; told 1 = min",
            "seed max; told 1 = max");
        Script.holds("told 2: how many ARMS", "told 2 = 2; arms 1; told 2 = 1; arms 4; told 2 = 4");
        Script.holds("told 3: whether OVER", "told 3 = 1; grow 0 1; told 3 = 0");
        Script.holds("told 4: TILL, by the ARMS there are",
            "grow 0 3; grow 0 3; told 4 = 4; arms 1; told 4 = 8; arms 4; told 4 = 4");
        Script.holds("told 4: -5", LONG + "grow 0 1; told 4 = -5; arms 2; told 4 = 152");
        Script.holds("told 6: how many entries THE TRACE has",
            "grow 0 1(1); told 6 = 0; cancel 0; told 6 = 2",
            ONE_ARM + "times 25 grow 0 1; pass 39; told 6 = 39; pass 1; told 6 = 40; pass 9; told 6 = 40");
    }

    private static void over() {
        Script.holds("OVER: no TASKS", "told 3 = 1; told 4 = 0; odds 0 0 = 1");
        Script.holds("OVER: no TASK is WAITING in a ROW",
            "grow 0 1; told 3 = 0; cancel 0; told 3 = 1", "arms 4; grow 3 1; told 3 = 0");
        Script.holds("OVER: no TASK is at WORK",
            ONE_ARM + "grow 0 2; pass 1; told 3 = 0; pass 1; told 3 = 0; pass 1; told 3 = 1",
            "grow 1 5; pass 1; told 3 = 0; cancel 0; told 3 = 1");
        Script.holds("OVER: no TASK is JOINING",
            ONE_ARM + "grow 0 1(1); pass 2; told 3 = 0; pass 1; told 3 = 0; pass 1; told 3 = 1");
        Script.holds("OVER: WAITING in no ROW doesn't keep it from that",
            ONE_ARM + "grow 0 1!(5,5); pass 2; each 0 = 4 0 0; told 3 = 1; told 4 = 0",
            "grow 0 1(1); cancel 0; told 3 = 1");
    }

    private static void on() {
        String run = "grow 0 2(1!,1); grow 0 1; ";
        Script.holds("ON n ROUNDS (0 .. 60)",
            run + "on 0 0 = 0; on 1 0 = 0; on 2 0 = 1; on 4 0 = 1; on 5 0 = 4; on 60 0 = 4",
            run + "on 60 2 = 112; on 59 2 = 110",
            run + "on 61 0 = BAD; on -1 0 = BAD; on min 0 = BAD; on max 0 = BAD");
        Script.holds("ON: goes on from how all is",
            run + "pass 3; on 0 0 = 1; on 1 0 = 1; on 2 0 = 4; on 0 3 = 1; on 1 3 = 2; on 0 2 = 1; on 60 2 = 118");
        Script.holds("ON 0: how many are ENDED",
            ONE_ARM + "grow 0 1?(5,1,1!,1); cancel 4; pass 6; each 0 = 2 0 3 4 5; on 0 0 = 3; on 5 0 = 3; on 6 0 = 5");
        Script.holds("ON 1: how many are DONE",
            ONE_ARM + "grow 0 1?(5,1,1!,1); cancel 4; pass 6; on 0 1 = 1; on 7 1 = 3");
        Script.holds("ON 2: IDLE of all ARMS, together",
            "arms 4; grow 0 9; on 3 2 = 9; pass 2; on 0 2 = 6; on 1 2 = 9; arms 2; on 0 2 = 2",
            "on 60 2 = 120; on 60 3 = 0");
        Script.holds("ON 3: STOLE of all",
            "arms 4; times 4 grow 3 9; on 0 3 = 0; on 1 3 = 3; pass 1; on 0 3 = 3; on 60 3 = 3");
        Script.holds("ON: past ROUND 9999, too",
            "times 166 pass 60; pass 39 = 9999; grow 0 1; on 2 0 = 1; on 60 2 = 20116; told 4 = 2; pass 1 = STATE");
    }

    private static void onRefused() {
        Script.holds("on: NONE, what", "on 0 3 = 0; on 0 4 = NONE; on 0 -1 = NONE; on 0 min = NONE; on 0 max = NONE");
        Script.holds("on: NONE ahead of BAD",
            "on 61 4 = NONE; on -1 4 = NONE; on 61 -1 = NONE; on max max = NONE; on 61 3 = BAD; on -1 0 = BAD");
    }

    private static void till() {
        Script.holds("TILL: 0, all is OVER", "till 1 = 0; till 4 = 0", "grow 0 1; cancel 0; till 2 = 0; told 4 = 0");
        Script.holds("TILL: how many ROUNDS it takes till all is OVER",
            ONE_ARM + "grow 0 1; told 4 = 2; pass 1; told 4 = 1; pass 1; told 4 = 0",
            ONE_ARM + "grow 0 2(1,3); told 4 = 9");
        Script.holds("TILL: how many ROUNDS (0 .. 300)",
            LONG + "told 4 = 300; till 1 = 300",
            LONG + "grow 0 1; pass 1; told 4 = -5; till 1 = -5; pass 1; told 4 = 300; till 1 = 300; pass 1; "
                + "told 4 = 299");
        Script.holds("TILL: -5, more",
            LONG + "grow 0 1; till 1 = -5; till 2 = 152; till 4 = 80",
            LONG + "grow 0 9; grow 0 9; told 4 = -5; pass 60; told 4 = 260");
        Script.holds("till: n (1 .. 4)",
            "till 1 = 0; till 4 = 0; till 0 = BAD; till 5 = BAD; till -1 = BAD; till min = BAD; till max = BAD");
    }

    private static void tillByArms() {
        Script.holds("ARMS n: those there more have empty ROWS",
            ONE_ARM + "times 4 grow 0 3; till 1 = 16; till 2 = 8; till 4 = 4; told 2 = 1",
            ONE_ARM + "grow 0 1; grow 0 5; pass 1; till 1 = 7; till 2 = 5; till 3 = 5");
        Script.holds("ARMS n: ROWS of those there no more come",
            "arms 4; grow 3 1; grow 2 1; grow 1 1; grow 0 1; till 1 = 8; till 2 = 4; till 3 = 4; till 4 = 2; "
                + "told 2 = 4; row 3 = 0");
        Script.holds("ARMS n: the far end first, to the near end of ARM 0's",
            "arms 3; grow 0 5; grow 2 1; grow 2 9; till 2 = 10", "arms 4; grow 0 5; grow 2 1; grow 3 9; till 2 = 10");
        Script.holds("ARMS n: what they were at work on, too; LEFT goes on",
            "grow 0 5; grow 1 9; pass 4; till 1 = 9; of 1 2 = 6; of 1 10 = 1",
            "arms 3; grow 0 5; grow 0 9; grow 1 9; grow 2 9; grow 2 1; pass 1; till 2 = 19");
        Script.holds("ARMS n: as many as there are", "grow 0 5; grow 1 9; pass 4; till 2 = 6; told 4 = 6");
        Script.holds("TILL by ARMS n: nothing comes of it",
            "arms 3; grow 2 5; grow 2 5; pass 2; till 1; till 4; told 2 = 3; told 0 = 2; arm 0 1 = 0; "
                + "arm 1 1 = 1; told 6 = 2");
    }

    private static void best() {
        Script.holds("BEST: the number of ARMS by which TILL is least",
            "grow 0 3; grow 0 3; told 5 = 2", "grow 0 3; grow 0 3; grow 0 3; told 5 = 3",
            "times 4 grow 0 3; told 5 = 4", ONE_ARM + "times 4 grow 0 3; told 5 = 4", "arms 4; grow 0 3; told 5 = 1");
        Script.holds("BEST: of several the least number",
            "told 5 = 1", "grow 0 3; told 5 = 1", "arms 4; grow 0 3; grow 0 3; told 5 = 2; cancel 0; told 5 = 1",
            "times 5 grow 0 3; told 5 = 3");
        Script.holds("BEST: more than 300 is none", LONG + "grow 0 1; told 5 = 4; till 1 = -5");
        // 0 of 2 WORK, 1 of 9 (6 LEFT) with one in it, 2 of 1: fewer ARMS make it WAIT
        Script.holds("BEST: ARMS as they are may be least",
            "arms 3; grow 0 2; grow 1 9(1); grow 2 1; pass 4; till 1 = 9; till 2 = 8; till 3 = 7; told 5 = 3");
    }

    private static void see() {
        Script.holds("see: how many there are; 5 rows at most",
            "grow 0 1; see 0 0 = 1; see 0 1 = 2; see 0 0 = 3; see 0 39 = 4; see 0 0 = 5; see 0 0 = FULL; count 2 = 5");
        Script.holds("see: k (0 .. 39)",
            "grow 0 1; see 0 0 = 1; see 0 39 = 2; see 0 40 = BAD; see 0 -1 = BAD; see 0 min = BAD; "
                + "see 0 max = BAD; count 2 = 2");
        Script.holds("see: task -1: none then, 0, whatever the rest is",
            "see -1 0 = 0",
            "grow 0 1; see 0 3 = 1; see -1 40 = 0; count 2 = 0; see 0 3 = 1; see -1 min = 0; see -1 max = 0; "
                + "see -1 -1 = 0; see 0 1 = 1",
            "grow 0 1; times 5 see 0 0 = 5; see -1 0 = 0; count 2 = 0; see 0 0 = 1; seeds = " + ALL);
        Script.holds("see: any TASK",
            "grow 0 1(1); see 1 0 = 1", ONE_ARM + "grow 0 1; pass 3; see 0 0 = 1; grow 0 1; cancel 1; see 1 0 = 2");
    }

    private static void seeRefused() {
        Script.holds("see: NONE",
            "see 0 0 = NONE",
            "grow 0 1; see 1 0 = NONE; see -2 0 = NONE; see -5 0 = NONE; see min 0 = NONE; see max 0 = NONE; "
                + "count 2 = 0");
        Script.holds("see: NONE ahead of BAD", "grow 0 1; see 1 40 = NONE; see -2 -1 = NONE; see 0 40 = BAD");
        Script.holds("see: NONE ahead of FULL",
            "grow 0 1; times 5 see 0 0; see 1 0 = NONE; see 1 40 = NONE; see 0 0 = FULL");
        Script.holds("see: BAD ahead of FULL",
            "grow 0 1; times 5 see 0 0; see 0 40 = BAD; see 0 -1 = BAD; see 0 39 = FULL");
    }

    private static void seeds() {
        Script.holds("SEEDS: those of 0 .. 30, as bits",
            "seeds = " + ALL, THREE + "see 0 0; seeds = " + IF_0, THREE + "see 2 0; seeds = " + IF_1,
            THREE + "see 4 0; seeds = " + IF_2);
        Script.holds("SEEDS: were that SEED, whatever it is",
            THREE + "seed 3; see 0 0; seeds = " + IF_0 + "; told 1 = 3",
            THREE + "seed min; see 4 0; seeds = " + IF_2);
        Script.holds("SEEDS: by which all of SEEN is so",
            THREE + "see 0 0; see 4 0; seeds = 0",
            THREE + "see 0 0; see 1 1; seeds = " + IF_0 + "; see 5 2; seeds = 0",
            THREE + "see 4 0; see 1 1; see 3 2; seeds = " + IF_2 + "; see 5 3; seeds = " + IF_2
                + "; see 1 4; seeds = 0",
            THREE + "see 0 39; seeds = 0", THREE + "times 4 see 4 0; see 2 0; seeds = 0");
        Script.holds("SEEN: the TASK of entry k",
            ONE_ARM + "grow 0 1; grow 0 1; see 1 0; see 1 1; see 0 2; see 0 3; seeds = " + ALL
                + "; see 1 2; seeds = 0",
            ONE_ARM + "grow 0 1; see 0 2; seeds = 0", ONE_ARM + "grow 0 1(9,1!); see 1 3; see 0 4; seeds = " + ALL,
            ONE_ARM + "grow 0 1(9,1!); see 0 0; see 2 1; see 2 2; see 1 3; see 0 4; seeds = " + ALL);
        Script.holds("SEEN: entry k (0 .. 39)",
            ONE_ARM + "times 21 grow 0 1; see 20 0; see 1 39; see 1 38; seeds = " + ALL,
            ONE_ARM + "times 21 grow 0 1; see 0 39; seeds = 0", ONE_ARM + "times 19 grow 0 1; see 0 39; seeds = 0");
        Script.holds("SEEN: from now on",
            ONE_ARM + "grow 0 2; grow 0 1; see 0 0; seeds = 0; pass 2; seeds = " + ALL + "; see 0 1; seeds = "
                + ALL + "; pass 1; seeds = 0",
            ONE_ARM + "times 23 grow 0 1; pass 41; told 6 = 40; see 1 0; see 1 1; seeds = 0",
            ONE_ARM + "times 23 grow 0 1; pass 41; see 2 0; see 1 1; see 1 2; see 0 4; seeds = " + ALL);
        Script.holds("SEEN: all entries from now on, though more than 40 come",
            ONE_ARM + "times 24 grow 0 1; pass 3; see 22 0; see 21 1; see 2 39; seeds = " + ALL);
    }

    private static void seedsWithin() {
        Script.holds("SEEDS: (within 60 ROUNDS)",
            ONE_ARM + SIX_NINES + "grow 0 9; see 1 11; seeds = " + ALL,
            ONE_ARM + SIX_NINES + "grow 0 9; see 0 12; seeds = 0; pass 1; see -1 0; see 0 11; seeds = " + ALL
                + "; see 0 12; seeds = 0");
        Script.holds("SEEDS: (within 60 ROUNDS), past ROUND 9999, too",
            "arms 1; times 166 pass 60; pass 39 = 9999; grow 0 1; see 0 1; seeds = " + ALL);
    }

    private static void odds() {
        // OVER within 8 only if the long one is stolen first
        String half = "arms 3; grow 1 7; grow 1 1; grow 2 1; grow 2 1; ";
        Script.holds("ODDS: SEED being one of 0 .. 19, each alike likely",
            half + "odds 8 0 = 11; odds 8 1 = 20; odds 9 0 = 11",
            "arms 4; grow 1 7; grow 1 1; grow 2 1; grow 2 1; grow 3 1; grow 3 1; odds 8 0 = 7; odds 8 1 = 20",
            half + "seed 3; odds 8 0 = 11; seed 1; odds 8 0 = 11; told 1 = 1");
        Script.holds("ODDS: in lowest terms",
            "arms 4; grow 1 1; grow 1 1; grow 2 1; grow 2 1; grow 3 7; grow 3 1; odds 8 0 = 1; odds 8 1 = 4",
            "arms 4; grow 1 1; grow 1 1; grow 2 7; grow 2 1; grow 3 1; grow 3 1; odds 8 0 = 2; odds 8 1 = 5");
        Script.holds("ODDS: never, 0 by 1", half + "odds 7 0 = 0; odds 7 1 = 1; odds 0 0 = 0; odds 0 1 = 1");
        Script.holds("ODDS: always, 1 by 1",
            half + "odds 10 0 = 1; odds 10 1 = 1; odds 60 0 = 1; odds 60 1 = 1",
            "odds 0 0 = 1; odds 0 1 = 1; odds 60 0 = 1");
        Script.holds("ODDS: within n (0 .. 60) ROUNDS",
            ONE_ARM + "grow 0 9; odds 9 0 = 0; odds 10 0 = 1", ONE_ARM + SIX_NINES + "odds 59 0 = 0; odds 60 0 = 1",
            ONE_ARM + SIX_NINES + "grow 0 1; odds 60 0 = 0; pass 2; odds 60 0 = 1",
            ONE_ARM + "grow 0 1; pass 1; odds 0 0 = 0; odds 1 0 = 1");
    }

    private static void oddsRefused() {
        Script.holds("odds: NO, n (0 .. 60)",
            "odds 0 0 = 1; odds 60 0 = 1; odds 61 0 = NO; odds -1 0 = NO; odds min 0 = NO; odds max 0 = NO; "
                + "odds 61 1 = NO");
        Script.holds("odds: NO, part",
            "odds 0 1 = 1; odds 0 2 = NO; odds 0 -1 = NO; odds 0 min = NO; odds 0 max = NO; odds 61 2 = NO");
    }

    private static void mean() {
        Script.holds("MEAN: NO, there are none",
            "mean 0 = NO; mean 1 = NO",
            ONE_ARM + "grow 0 1!; grow 0 1(1); cancel 1; pass 3; each 0 = 4 5 5; mean 0 = NO; mean 1 = NO",
            ONE_ARM + "grow 0 1(2); pass 4; each 0 = 2 1; mean 0 = NO");
        Script.holds("MEAN: WORTHS of all that are DONE, together, by how many they are",
            ONE_ARM + "grow 0 5; pass 6; mean 0 = 5; mean 1 = 1",
            ONE_ARM + "grow 0 1(3,2); pass 60; mean 0 = 11; mean 1 = 3",
            ONE_ARM + "grow 0 1(3,2); grow 0 1!; grow 0 9; cancel 4; pass 60; mean 0 = 11; mean 1 = 3");
        Script.holds("MEAN: in lowest terms",
            ONE_ARM + "grow 0 1; grow 0 3; pass 60; mean 0 = 2; mean 1 = 1",
            ONE_ARM + "grow 0 1; grow 0 2; grow 0 3; grow 0 4; pass 60; mean 0 = 5; mean 1 = 2");
        Script.holds("mean: NO, part",
            ONE_ARM + "grow 0 5; pass 6; mean 2 = NO; mean -1 = NO; mean min = NO; mean max = NO");
    }

    private static void plan() {
        Script.holds("plan: how many there are; 10 rows at most",
            "grow 0 1; plan 0 0 = 1; plan 1 0 = 2; plan 2 0 = 3; times 6 plan 0 0 = 9; plan 0 0 = 10; "
                + "plan 0 0 = FULL; plan 1 0 = FULL; plan 2 0 = FULL; count 3 = 10");
        Script.holds("plan: what (0 .. 2)",
            "grow 0 1; plan 0 0 = 1; plan 2 0 = 2; plan 3 0 = NONE; plan -2 0 = NONE; plan min 0 = NONE; "
                + "plan max 0 = NONE; count 3 = 2");
        Script.holds("plan: what -1: it is empty then, 0, whatever the rest is",
            "plan -1 0 = 0",
            "plan 0 0; plan 0 0 = 2; plan -1 99 = 0; count 3 = 0; plan 0 0 = 1; plan -1 -1 = 0; "
                + "plan -1 min = 0; plan -1 max = 0",
            "times 10 plan 0 0 = 10; plan -1 0 = 0; plan 0 0 = 1; count 3 = 1");
        Script.holds("plan: by 0 n does not matter", "plan 0 -1 = 1; plan 0 min = 2; plan 0 max = 3; plan 0 99 = 4");
        Script.holds("plan: by 2 n is any", "plan 2 min = 1; plan 2 max = 2; plan 2 -1 = 3; plan 2 0 = 4");
    }

    private static void planRefused() {
        Script.holds("plan: NONE, task (by 1)",
            "plan 1 0 = NONE",
            "grow 0 1(1); plan 1 1 = 1; plan 1 2 = NONE; plan 1 -1 = NONE; plan 1 -5 = NONE; "
                + "plan 1 min = NONE; plan 1 max = NONE; count 3 = 1",
            ONE_ARM + "grow 0 1; pass 2; plan 1 0 = 1");
        Script.holds("plan: NONE ahead of FULL",
            "grow 0 1; times 10 plan 0 0; plan 1 1 = NONE; plan 3 0 = NONE; plan -2 0 = NONE; "
                + "plan 1 -1 = NONE; plan 1 0 = FULL");
    }

    private static void ends() {
        Script.holds("ENDS: by no rows, as all is",
            "ends 0 = 0; ends 1 = 0", ONE_ARM + "grow 0 1; grow 0 3; pass 4; ends 0 = 1; ends 1 = 3");
        Script.holds("what goes: 0 a ROUND",
            ONE_ARM + "grow 0 9; times 9 plan 0 77; ends 0 = 0; plan 0 0; ends 0 = 1; ends 1 = 9; told 0 = 0",
            "times 166 pass 60; pass 39; grow 0 1; plan 0 0; plan 0 0; ends 0 = 1; told 0 = 9999");
        Script.holds("what goes: 1 TASK n is CANCELLED",
            "grow 0 1(2,3(1)); plan 1 2; ends 0 = 2; plan 1 0; ends 0 = 4; ends 1 = 0; count 1 = 0",
            ONE_ARM + "grow 0 1(2,3); pass 2; plan 1 1; plan 1 2; ends 0 = 3; ends 1 = 1",
            "grow 0 1; grow 0 1; plan 1 1; ends 0 = 1");
        Script.holds("what goes: CANCELLED, if it isn't ENDED: WAITING, at WORK, JOINING",
            ONE_ARM + "grow 0 1(2); plan 1 0; ends 0 = 2; pass 1; ends 0 = 2; pass 1; of 0 0 = 2; ends 0 = 2; "
                + "ends 1 = 0");
        Script.holds("what goes: CANCELLED, if it isn't ENDED",
            "grow 0 1; plan 1 0; plan 1 0; ends 0 = 1",
            ONE_ARM + "grow 0 3; plan 1 0; pass 4; ends 0 = 1; ends 1 = 3",
            ONE_ARM + "grow 0 1!; pass 2; plan 1 0; ends 0 = 1",
            ONE_ARM + "grow 0 3; times 4 plan 0 0; plan 1 0; ends 0 = 1; ends 1 = 3");
        String three = "arms 4; grow 1 1; grow 1 3; grow 2 3; grow 2 9; grow 3 3; grow 3 9; plan 2 ";
        Script.holds("what goes: 2 SEED becomes n",
            three + "0; plan 0 0; plan 0 0; ends 0 = 1; ends 1 = 1; told 1 = 1",
            three + "1; plan 0 0; plan 0 0; ends 0 = 0", three + "5; plan 0 0; plan 0 0; ends 0 = 0",
            three + "1; plan 2 0; plan 0 0; plan 0 0; ends 0 = 1",
            three + "0; plan 2 1; plan 0 0; plan 0 0; ends 0 = 0",
            three + "0; plan 0 0; plan 2 1; plan 0 0; ends 0 = 1", three + "min; plan 0 0; plan 0 0; ends 0 = 0",
            three + "-1; seed 0; plan 0 0; plan 0 0; ends 0 = 0");
        Script.holds("what goes: row by row",
            ONE_ARM + "grow 0 1; plan 0 0; plan 0 0; plan 1 0; ends 1 = 1",
            ONE_ARM + "grow 0 1; plan 0 0; plan 1 0; plan 0 0; ends 1 = 0; ends 0 = 1",
            ONE_ARM + "grow 0 1; grow 0 1; times 9 plan 0 0; plan 1 1; ends 0 = 2; ends 1 = 2");
        Script.holds("ENDS: from how all is",
            ONE_ARM + "grow 0 3; plan 0 0; ends 0 = 0; pass 3; ends 0 = 1; ends 0 = 1; told 0 = 3; of 0 0 = 1");
        Script.holds("ENDS 0: how many are ENDED; 1: WORTHS of all that are DONE, together",
            ONE_ARM + "grow 0 1?(5,1,1!,1); cancel 4; pass 6; ends 0 = 3; ends 1 = 1; times 7 plan 0 0; "
                + "ends 0 = 5; ends 1 = 13");
        Script.holds("ends: NONE", "ends 1 = 0; ends 2 = NONE; ends -1 = NONE; ends min = NONE; ends max = NONE");
    }

    private static void book() {
        Script.holds("book: how many there are; 8 at most",
            "grow 0 1; book 0 0 = 1; times 6 book 0 1 = 7; book 0 0 = 8; book 0 0 = FULL; count 4 = 8");
        Script.holds("book: what (0 .. 5)",
            "grow 0 1; book 0 0 = 1; book 0 5 = 2; book 0 6 = BAD; book 0 -1 = BAD; book 0 min = BAD; "
                + "book 0 max = BAD; count 4 = 2; book 0 3 = 3");
        Script.holds("book: task -1: it is empty then, 0, whatever the rest is",
            "book -1 0 = 0",
            "grow 0 1; book 0 1; book 0 1 = 2; looked = 0; book -1 99 = 0; count 4 = 0; looked = -5; "
                + "book 0 0 = 1; book -1 -1 = 0; book -1 min = 0; book -1 max = 0",
            "grow 0 1; times 8 book 0 1 = 8; book -1 6 = 0; book 0 0 = 1");
    }

    private static void bookRefused() {
        Script.holds("book: NONE",
            "book 0 0 = NONE",
            "grow 0 1; book 1 0 = NONE; book -2 0 = NONE; book -5 0 = NONE; book min 0 = NONE; "
                + "book max 0 = NONE; count 4 = 0");
        Script.holds("book: NONE ahead of BAD", "grow 0 1; book 1 6 = NONE; book -2 -1 = NONE; book 0 6 = BAD");
        Script.holds("book: NONE ahead of FULL",
            "grow 0 1; times 8 book 0 0; book 1 0 = NONE; book 1 6 = NONE; book -2 0 = NONE; book 0 0 = FULL");
        Script.holds("book: BAD ahead of FULL",
            "grow 0 1; times 8 book 0 0; book 0 6 = BAD; book 0 -1 = BAD; book 0 5 = FULL");
    }

    private static void looked() {
        String states = ONE_ARM + "grow 0 9; grow 0 1?(5,1,1!,1); cancel 5; pass 7; "; // 0 2 1 3 4 5
        Script.holds("LOOKED: -5, none",
            "looked = -5", "grow 0 1; looked = -5; book 0 0; looked = -5",
            states + "book 0 0; book 1 2; book 2 1; book 3 3; book 4 4; book 5 5; book 5 5; book 0 0; looked = -5");
        Script.holds("LOOKED: the number (from 0) of the first row by which it is otherwise now",
            "grow 0 1; book 0 1; looked = 0; book 0 2; looked = 0",
            states + "book 0 0; book 1 1; book 2 0; looked = 1", states + "book 3 4; looked = 0",
            states + "book 4 3; looked = 0", states + "book 5 3; looked = 0", states + "book 2 2; looked = 0",
            "grow 0 1; times 7 book 0 0; book 0 3; looked = 7",
            "grow 0 1; grow 0 1; book 0 0; book 1 0; cancel 1; looked = 1; cancel 0; looked = 0");
        Script.holds("LOOKED: otherwise now",
            ONE_ARM + "grow 0 1; book 0 3; looked = 0; pass 1; looked = 0; pass 1; looked = -5");
    }
}
