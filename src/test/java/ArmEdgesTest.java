/** ARMS, SEED, what a TASK is; promises 1 to 3 and 6 to 8: each sentence that names an edge, by itself. */
public final class ArmEdgesTest {
    /** TASK 0 WAITING, 1 JOINING, 2 at WORK, 3 DONE, 4 FAILED, 5 CANCELLED. */
    private static final String STATES = "arms 1; grow 0 9; grow 0 1?(5,1,1!,1); cancel 5; pass 7; ";
    /** TASKS 0 and 1 in ARM 3's ROW, 2 and 3 in ARM 2's, 4 and 5 in ARM 1's, 6 in ARM 0's. */
    private static final String ROWS = "arms 4; grow 3 9; grow 3 8; grow 2 7; grow 2 6; grow 1 5; grow 1 4; grow 0 9; ";
    private static final String THIRTY = "times 10 grow 0 9; times 10 grow 1 9; times 10 grow 2 9; ";

    public static void main(String[] args) {
        newObject();
        howManyArms();
        moreArms();
        fewerArms();
        atWorkOnFewerArms();
        idleAndStoleOfArmsThatGo();
        seed();
        whatATaskIs();
        spanAllDepth();
        whereATaskIs();
        ofRefused();
        causes();
        causesRefused();
        arm();
        armRefused();
        Check.end("ArmEdgesTest");
    }

    private static void newObject() {
        Script.holds("A new object: two ARMS",
            "told 2 = 2; arm 0 0 = 0; arm 1 0 = 0; arm 2 0 = NONE", "row 0 =; row 1 =; arm 0 1 = -5; arm 1 1 = -5");
        Script.holds("IDLE, STOLE (0 at first)",
            "arm 0 2 = 0; arm 1 2 = 0; arm 0 3 = 0; arm 1 3 = 0",
            "arms 4; arm 2 2 = 0; arm 3 2 = 0; arm 2 3 = 0; arm 3 3 = 0");
        Script.holds("A new object: no TASKS",
            "count 0 = 0; of 0 0 = NONE; told 3 = 1; told 6 = 0",
            "count 1 = 0; count 2 = 0; count 3 = 0; count 4 = 0; count 5 = 0; undo = STATE; items 0 =; items 5 =");
        Script.holds("SEED (1 at first)", "told 1 = 1", "seed 0 = 1");
        Script.holds("An object is used for at most 512 calls: the last of them is answered, too",
            "times 510 seed 5; seed 6 = 5; told 1 = 6", "times 165 pass 60; times 100 feed 49; times 246 told 4; told 0 = 9900");
        Script.holds("ROUND: 0 at first", "told 0 = 0", "pass 0 = 0", "pass 1 = 1");
    }

    private static void howManyArms() {
        Script.holds("arms: n (1 .. 4)",
            "arms 1 = 2; told 2 = 1", "arms 4 = 2; told 2 = 4", "arms 2 = 2; told 2 = 2", "arms 3 = 2; told 2 = 3",
            "arms 0 = BAD; told 2 = 2", "arms 5 = BAD; told 2 = 2", "arms -1 = BAD", "arms min = BAD",
            "arms max = BAD; told 2 = 2");
        Script.holds("arms: how many there were",
            "arms 4 = 2; arms 4 = 4; arms 1 = 4; arms 1 = 1; arms 3 = 1; arms 0; arms 2 = 3");
        Script.holds("ARMS 0 .. 3",
            "arms 4; arm 3 0 = 0; arm 4 0 = NONE; arm -1 0 = NONE", "arms 1; arm 0 0 = 0; arm 1 0 = NONE",
            "arms 3; arm 2 0 = 0; arm 3 0 = NONE");
        Script.holds("as many ARMS as there were: all stays",
            ROWS + "pass 1; arms 4 = 4; each 0 = 0 1 0 1 0 1 1; row 0 =; row 1 = 4; row 2 = 2; row 3 = 0; "
                + "each 10 = -5 3 -5 2 -5 1 0");
    }

    private static void moreArms() {
        Script.holds("those there more have empty ROWS",
            "arms 1; grow 0 5; grow 0 6; arms 4; row 0 = 0 1; row 1 =; row 2 =; row 3 =",
            "arms 4; grow 3 5; grow 2 5; arms 2; arms 4; row 2 =; row 3 =; row 0 = 1 0",
            "arms 4; arm 3 1 = -5; arm 2 1 = -5");
        Script.holds("those there more are at work on none",
            "arms 4; grow 2 9; grow 3 9; grow 0 9; grow 1 9; pass 1; arms 1; arms 4; "
                + "arm 1 1 = -5; arm 2 1 = -5; arm 3 1 = -5; arm 0 1 = 2");
        Script.holds("those there more: what the others do stays",
            "grow 0 9; grow 1 9; grow 1 9; pass 2; arms 4; row 1 = 1; each 10 = 0 -5 1; each 2 = 8 9 8");
    }

    private static void fewerArms() {
        Script.holds("ROWS of those there no more come, ARM by ARM, by numbers, the far end first, to the near end of ARM 0's",
            ROWS + "arms 1 = 4; row 0 = 6 4 5 2 3 0 1", ROWS + "arms 2 = 4; row 0 = 6 2 3 0 1; row 1 = 4 5",
            ROWS + "arms 3 = 4; row 0 = 6 0 1; row 1 = 4 5; row 2 = 2 3",
            ROWS + "arms 3; arms 2; row 0 = 6 0 1 2 3; row 1 = 4 5",
            "arms 2; grow 1 1; grow 1 1; arms 1; row 0 = 0 1");
        Script.holds("32 TASKS come to one ROW",
            "arms 4; " + THIRTY + "grow 3 9; grow 3 9; arms 1; arm 0 0 = 32; arm 0 10 = 0; arm 0 20 = 10; "
                + "arm 0 40 = 30; arm 0 41 = 31; arm 0 42 = -5; pass 1; arm 0 1 = 31");
        Script.holds("of those there no more, empty ROWS bring nothing",
            "arms 4; grow 0 1; grow 3 1; arms 1; row 0 = 0 1");
        Script.holds("ARMS n: no DRAW, no ROUND, no entry",
            ROWS + "seed 9; arms 1; told 1 = 9; told 0 = 0; told 6 = 0");
    }

    private static void atWorkOnFewerArms() {
        Script.holds("what they were at work on, too, ahead of their ROWS",
            ROWS + "pass 1; arms 1; row 0 = 5 4 3 2 1 0",
            ROWS + "pass 1; arms 2; row 0 = 3 2 1 0; row 1 = 4; arm 1 1 = 5",
            ROWS + "pass 1; arms 3; row 0 = 1 0; arm 2 1 = 3",
            "grow 0 9; grow 1 9; pass 1; grow 0 8; arms 1; row 0 = 2 1");
        Script.holds("it is WAITING then",
            ROWS + "pass 1; arms 2; each 0 = 0 0 0 0 0 1 1; each 10 = -5 -5 -5 -5 -5 1 0; "
                + "each 11 = 0 0 0 0 1 -5 -5",
            "grow 0 9; grow 1 9; pass 1; of 1 0 = 1; arms 1; of 1 0 = 0; of 1 11 = 0");
        Script.holds("LEFT of it stays, and goes on from there",
            ROWS + "pass 3; arms 1; each 2 = 9 6 7 4 5 2 7",
            "grow 0 1; grow 1 5; pass 3; of 1 2 = 3; arms 1; row 0 = 1; pass 1; of 1 0 = 1; of 1 2 = 3; "
                + "pass 3; of 1 0 = 3; told 0 = 7");
        Script.holds("what ARM 0 is at work on stays",
            ROWS + "pass 2; arms 1; arm 0 1 = 6; of 6 0 = 1; of 6 2 = 8; of 6 10 = 0");
    }

    private static void idleAndStoleOfArmsThatGo() {
        Script.holds("IDLE and STOLE of those there stay",
            "arms 4; pass 3; arms 1; arm 0 2 = 3; arms 4; arm 0 2 = 3",
            "grow 1 9; pass 1; arm 0 3 = 1; arms 1; arm 0 3 = 1");
        Script.holds("IDLE (0 at first), of one that comes again",
            "arms 4; pass 3; arm 3 2 = 3; arms 3; arms 4; arm 3 2 = 0; arm 2 2 = 3");
        Script.holds("STOLE (0 at first), of one that comes again",
            "grow 0 9; grow 0 9; pass 1; arm 1 3 = 1; arms 1; arms 2; arm 1 3 = 0");
    }

    private static void seed() {
        Script.holds("seed: SEED (an int) becomes v: what it was",
            "seed min = 1; told 1 = min; seed max = min; told 1 = max; seed 0 = max; seed -1 = 0; "
                + "seed -10001 = -1; told 1 = -10001; seed 1 = -10001");
    }

    private static void whatATaskIs() {
        Script.holds("WAITING (0), at WORK (1), JOINING (2), DONE (3), FAILED (4), CANCELLED (5)",
            STATES + "each 0 = 0 2 1 3 4 5");
        Script.holds("WAITING: in the ROW of an ARM, or not forked yet",
            "grow 0 1(1); each 0 = 0 0; pass 1; each 0 = 1 0",
            "arms 1; grow 0 1(1); pass 2; each 0 = 2 0; row 0 = 1");
        Script.holds("WORK stays", STATES + "each 1 = 9 1 5 1 1 1");
        Script.holds("LEFT: WORK at first", "grow 0 9(1,5) = 0; each 2 = 9 1 5", STATES + "each 2 = 9 0 5 0 0 1");
        Script.holds("a WORTH: 0 till it is DONE",
            "grow 0 9(1) = 0; each 3 = 0 0", STATES + "each 3 = 0 0 0 1 0 0",
            "arms 1; grow 0 2(1,3); pass 5; each 0 = 2 0 1; each 3 = 0 0 0; pass 2; each 0 = 2 0 3; "
                + "each 3 = 0 0 3; pass 2; each 3 = 6 1 3");
        Script.holds("ENDED: 3 to 5", STATES + "count 1 = 3; on 0 0 = 3; on 0 1 = 1");
        Script.holds("of 4: which one it is in (-5: a ROOT)",
            STATES + "each 4 = -5 -5 1 1 1 1", "grow 0 1(1(1(1(1)))); each 4 = -5 0 1 2 3");
        Script.holds("of 5: how many are in it",
            STATES + "each 5 = 0 4 0 0 0 0", "grow 0 1(1(1,1),1); each 5 = 2 2 0 0 0",
            "grow 0 1(1,1,1,1,1,1); of 0 5 = 6; of 6 5 = 0");
        Script.holds("of 6: FAILS (1), CATCHES (2), neither (0)", STATES + "each 6 = 0 2 0 0 1 0");
    }

    private static void spanAllDepth() {
        Script.holds("SPAN: its WORK, and the greatest SPAN of those in it",
            "grow 0 1(9,2); of 0 7 = 10", "grow 0 1(2,9); of 0 7 = 10", "grow 0 1(2,9,3); of 0 7 = 10",
            "grow 0 1(2(9),5,3(1)); each 7 = 12 11 9 5 4 1", "grow 0 9(9(9(9(9)))); each 7 = 45 36 27 18 9");
        Script.holds("SPAN, ALL: by WORK, whatever is LEFT, of ENDED ones, too",
            "arms 1; grow 0 1(9); pass 5; of 0 7 = 10; of 1 7 = 9; of 0 8 = 10; pass 20; of 0 7 = 10; "
                + "of 0 8 = 10; of 1 8 = 9",
            "grow 0 1(9,2); cancel 1; of 0 7 = 10; of 0 8 = 12; of 0 5 = 2; of 1 9 = 1",
            "arms 1; grow 0 1!(9); pass 3; of 0 7 = 10; of 0 8 = 10");
        Script.holds("SPAN: (0: none)", "grow 0 7; of 0 7 = 7", "grow 0 1(8); of 1 7 = 8");
        Script.holds("SPAN of each TREE by itself",
            "grow 0 1(9); grow 0 2(3); each 7 = 10 9 5 3", STATES + "each 7 = 9 6 5 1 1 1");
        Script.holds("ALL: WORK of it and all below, together",
            "grow 0 7; of 0 8 = 7", "grow 0 1(2(9),5,3(1)); each 8 = 21 11 9 5 4 1",
            "grow 0 9(9(9(9(9)))); each 8 = 45 36 27 18 9", "grow 0 1(9); grow 0 2(3); each 8 = 10 9 5 3",
            STATES + "each 8 = 9 9 5 1 1 1");
        Script.holds("DEPTH: 0 of a ROOT, else 1 more",
            "grow 0 1(1(1(1(1))),1); grow 0 1(1); each 9 = 0 1 2 3 4 1 0 1");
    }

    private static void whereATaskIs() {
        Script.holds("of 10: which ARM is at work on it (-5)",
            ROWS + "each 10 = -5 -5 -5 -5 -5 -5 -5; pass 1; each 10 = -5 3 -5 2 -5 1 0",
            STATES + "each 10 = -5 -5 0 -5 -5 -5");
        Script.holds("of 11: in whose ROW it is (-5)",
            ROWS + "each 11 = 3 3 2 2 1 1 0; pass 1; each 11 = 3 -5 2 -5 1 -5 -5",
            STATES + "each 11 = 0 -5 -5 -5 -5 -5", "grow 0 1(1,1); each 11 = 0 -5 -5");
    }

    private static void ofRefused() {
        Script.holds("of: NONE, task",
            "of 0 0 = NONE",
            "grow 0 1(1); of 1 0 = 0; of 2 0 = NONE; of -1 0 = NONE; of min 0 = NONE; of max 0 = NONE",
            "grow 0 1; of -5 4 = NONE; of 32 0 = NONE; of 31 0 = NONE");
        Script.holds("of: NONE, what",
            "grow 0 1; of 0 0 = 0; of 0 11 = 0; of 0 12 = NONE; of 0 -1 = NONE; of 0 min = NONE; of 0 max = NONE");
        Script.holds("of: NONE, both", "grow 0 1; of 1 12 = NONE; of -1 -1 = NONE");
    }

    private static void causes() {
        String chain = "arms 1; grow 0 1(1(1(1(1!)))); pass 10; ";
        Script.holds("cause: 0 itself, 1 its CAUSE, 2 the CAUSE of that, and so on",
            chain + "cause 0 0 = 0; cause 0 1 = 1; cause 0 2 = 2; cause 0 3 = 3; cause 0 4 = 4; "
                + "cause 2 1 = 3; cause 3 1 = 4; cause 4 0 = 4",
            "arms 1; grow 0 1(1,1!,1); pass 6; each 0 = 4 5 4 3; cause 0 1 = 2; cause 0 0 = 0");
        Script.holds("cause: -5, there is none",
            chain + "cause 0 5 = -5; cause 4 1 = -5; cause 3 2 = -5; cause 0 6 = -5; cause 0 8 = -5; "
                + "cause 4 16 = -5; cause 4 32 = -5; cause 4 256 = -5; cause 4 65536 = -5; cause 0 max = -5; "
                + "cause 4 max = -5");
        Script.holds("cause: -5, it isn't FAILED",
            STATES + "cause 0 0 = -5; cause 1 0 = -5; cause 2 0 = -5; cause 3 0 = -5; cause 4 0 = 4; "
                + "cause 5 0 = -5; cause 0 1 = -5; cause 1 1 = -5; cause 5 1 = -5; cause 0 max = -5",
            "arms 1; grow 0 1(1,1!); pass 4; each 0 = 4 5 4; cause 1 0 = -5; cause 1 1 = -5");
    }

    private static void causesRefused() {
        Script.holds("cause: NONE, task",
            "cause 0 0 = NONE",
            "grow 0 1!; pass 3; cause 1 0 = NONE; cause -1 0 = NONE; cause min 0 = NONE; cause max 0 = NONE; "
                + "cause -5 1 = NONE");
        Script.holds("cause: NONE, k is below 0",
            "grow 0 1!; cause 0 -1 = NONE; cause 0 min = NONE; pass 3; cause 0 -1 = NONE; cause 0 min = NONE; "
                + "cause 0 0 = 0");
        Script.holds("cause: NONE, both", "cause 0 -1 = NONE; cause -1 -1 = NONE");
    }

    private static void arm() {
        Script.holds("arm 0: how many are in its ROW",
            "grow 0 1; arm 0 0 = 1; grow 0 1; arm 0 0 = 2; arm 1 0 = 0; pass 1; arm 0 0 = 0");
        Script.holds("arm 1: on which it is at work (-5)",
            "grow 0 1; arm 0 1 = -5; pass 1; arm 0 1 = 0; pass 1; arm 0 1 = -5");
        Script.holds("arm 2, 3: IDLE, STOLE",
            "grow 0 5; grow 0 5; pass 2; arm 0 2 = 0; arm 0 3 = 0; arm 1 2 = 0; arm 1 3 = 1; pass 6; "
                + "arm 0 2 = 2; arm 1 2 = 2; arm 1 3 = 1");
        Script.holds("arm 10 and k: the TASK at k in its ROW (0 at the far end; -5)",
            "grow 1 3; grow 1 2; grow 1 1; arm 1 10 = 0; arm 1 11 = 1; arm 1 12 = 2; arm 1 13 = -5; "
                + "arm 1 41 = -5; arm 1 42 = -5; arm 1 max = -5; arm 0 10 = -5",
            "arms 4; " + THIRTY + "arms 1; arm 0 39 = 29; arm 0 40 = -5; grow 0 1; grow 0 1; arm 0 41 = 31; "
                + "arm 0 42 = -5");
        Script.holds("arm 10 and k: as the ROW is then",
            "arms 1; grow 0 1; grow 0 1; grow 0 1; pass 1; arm 0 11 = 1; arm 0 12 = -5; cancel 0; "
                + "arm 0 10 = 1; arm 0 11 = -5");
    }

    private static void armRefused() {
        Script.holds("arm: NONE, arm",
            "arm 2 0 = NONE; arm 2 1 = NONE; arm 2 10 = NONE; arm -1 0 = NONE; arm -1 10 = NONE; "
                + "arm min 0 = NONE; arm max 0 = NONE; arm 1 0 = 0",
            "arms 4; arm 3 3 = 0; arm 4 3 = NONE");
        Script.holds("arm: NONE, what",
            "arm 0 -1 = NONE; arm 0 3 = 0; arm 0 4 = NONE; arm 0 5 = NONE; arm 0 6 = NONE; arm 0 7 = NONE; "
                + "arm 0 8 = NONE; arm 0 9 = NONE; arm 0 10 = -5; arm 0 min = NONE");
        Script.holds("arm: NONE, both", "arm 2 4 = NONE; arm -1 -1 = NONE; arm max min = NONE");
    }
}
