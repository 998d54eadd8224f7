/** A ROUND, THROUGH, CANCELLED, THE TRACE; promises 9, 10, 12: each sentence that names an edge, by itself. */
public final class RoundEdgesTest {
    /** Ten TASKS of WORK 1 in ARM 0's ROW. */
    private static final String TEN = "times 10 grow 0 1; ";
    private static final String ONE_ARM = "arms 1; ";

    public static void main(String[] args) {
        pass();
        passTooFar();
        atWork();
        takesNoOther();
        takes();
        steals();
        drawBelowHowMany();
        byNumbersOfArms();
        idle();
        draws();
        oneArmAfterAnother();
        throughFails();
        throughForks();
        throughDone();
        endedOnes();
        joiningAlone();
        failedBelow();
        catches();
        worths();
        asManyAsMayBe();
        upward();
        cancelled();
        cancelledAhead();
        cancelRefused();
        trace();
        traceIsFull();
        traceRefused();
        Check.end("RoundEdgesTest");
    }

    private static void pass() {
        Script.holds("pass: n ROUNDS (0 .. 60)",
            "pass 0 = 0; told 0 = 0", "pass 60 = 60; told 0 = 60", "pass 1 = 1; pass 60 = 61",
            "pass 61 = BAD; told 0 = 0", "pass -1 = BAD; told 0 = 0", "pass min = BAD", "pass max = BAD; told 0 = 0");
        Script.holds("pass 0: nothing goes on", "grow 0 1; pass 0 = 0; each 0 = 0; told 6 = 0; arm 1 2 = 0");
        Script.holds("pass: n, none more and none less", "arms 1; pass 60; arm 0 2 = 60; pass 59; arm 0 2 = 119");
    }

    private static void passTooFar() {
        String near = "times 165 pass 60; "; // 9900
        Script.holds("pass: STATE, ROUND would be above 9999",
            near + "pass 60 = 9960; pass 60 = STATE; pass 40 = STATE; told 0 = 9960; pass 39 = 9999",
            near + "pass 39 = 9939; pass 60 = 9999; pass 1 = STATE; pass 60 = STATE; told 0 = 9999",
            near + "pass 40 = 9940; pass 60 = STATE; pass 59 = 9999",
            near + "pass 50; pass 50 = STATE; pass 49 = 9999; pass 0 = 9999; arm 0 2 = 9999");
        Script.holds("pass: STATE, and no ROUND goes by",
            near + "pass 50; grow 0 1; pass 60 = STATE; of 0 0 = 0; told 6 = 0; arm 1 2 = 9950");
        Script.holds("pass: BAD ahead of STATE",
            near + "pass 59; pass 40; pass 61 = BAD; pass -1 = BAD; pass max = BAD; pass min = BAD; told 0 = 9999");
    }

    private static void atWork() {
        Script.holds("at work on a TASK: LEFT is 1 less",
            ONE_ARM + "grow 0 3; pass 2; of 0 2 = 2; pass 1; of 0 2 = 1; of 0 0 = 1; pass 1; of 0 2 = 0; of 0 0 = 3");
        Script.holds("LEFT is 1 less from the next ROUND on",
            ONE_ARM + "grow 0 3; pass 1; of 0 2 = 3; of 0 0 = 1",
            "grow 1 3; pass 1; arm 0 1 = 0; of 0 2 = 3; pass 1; of 0 2 = 2",
            ONE_ARM + "grow 0 1; pass 1; of 0 0 = 1; pass 1; of 0 0 = 3",
            ONE_ARM + "grow 0 9; pass 9; of 0 0 = 1; pass 1; of 0 0 = 3");
        Script.holds("if that is 0 then, the ARM is at work on none",
            ONE_ARM + "grow 0 1; pass 1; arm 0 1 = 0; pass 1; arm 0 1 = -5; of 0 10 = -5",
            ONE_ARM + "grow 0 1(1); pass 2; arm 0 1 = -5; of 0 10 = -5", ONE_ARM + "grow 0 1!; pass 2; arm 0 1 = -5");
        Script.holds("at work: it takes no other, isn't IDLE",
            "grow 0 3; grow 1 3; grow 0 3; pass 3; row 0 = 0; row 1 =; arm 1 2 = 0; arm 1 3 = 0; told 1 = 1");
        Script.holds("Then ROUND is 1 more",
            "pass 1; told 0 = 1", ONE_ARM + "grow 0 2; pass 60; entries = 0 0 0 0, 2 0 3 0");
    }

    private static void takesNoOther() {
        Script.holds("THROUGH: it takes no other in this ROUND",
            ONE_ARM + "grow 0 1; grow 0 1; pass 2; arm 0 1 = -5; row 0 = 0; pass 1; arm 0 1 = 0",
            ONE_ARM + "grow 0 1(1); pass 2; arm 0 1 = -5; row 0 = 1; told 6 = 1; pass 1; arm 0 1 = 1",
            ONE_ARM + "grow 0 1; grow 0 1!; pass 2; row 0 = 0");
        Script.holds("THROUGH: it steals no other in this ROUND",
            "grow 0 1; grow 1 1; grow 1 1; pass 2; row 1 = 1; arm 0 3 = 0; told 1 = 1; pass 1; row 1 =");
        Script.holds("THROUGH: it isn't IDLE in this ROUND",
            ONE_ARM + "grow 0 1; pass 2; arm 0 2 = 0; pass 1; arm 0 2 = 1");
    }

    private static void takes() {
        Script.holds("it takes the TASK at the near end of its own ROW",
            ONE_ARM + "grow 0 1; grow 0 2; grow 0 3; pass 1; arm 0 1 = 2; row 0 = 0 1");
        Script.holds("its own ROW ahead of others'",
            "grow 0 5; grow 1 5; grow 1 5; pass 1; arm 0 1 = 0; row 1 = 1; told 1 = 1; arm 0 3 = 0");
        Script.holds("the last of its own ROW, too", "grow 0 5; pass 1; arm 0 1 = 0; arm 0 3 = 0; row 0 =");
        Script.holds("What it takes is at WORK on it",
            "grow 0 5; grow 0 5; pass 1; each 0 = 1 1; each 10 = 1 0; each 11 = -5 -5");
    }

    private static void steals() {
        Script.holds("the TASK at the far end of its ROW",
            "grow 0 5; grow 0 6; grow 0 7; pass 1; arm 1 1 = 0; arm 0 1 = 2; row 0 = 1");
        Script.holds("STOLE is 1 more",
            "grow 0 1; grow 0 1; grow 0 1; pass 1; arm 1 3 = 1; arm 0 3 = 0; pass 2; arm 1 3 = 1; arm 0 3 = 0",
            "grow 0 9; grow 0 1; grow 0 1; pass 3; arm 1 3 = 1; row 0 =; arm 0 1 = 1; arm 0 3 = 0",
            "grow 1 1; grow 1 1; grow 1 1; pass 3; arm 0 3 = 2; arm 1 3 = 0",
            "grow 1 9; grow 1 1; grow 1 9; pass 1; arm 0 3 = 1; cancel 0; pass 1; arm 0 3 = 2; arm 0 1 = 1");
        Script.holds("of the other ARMS whose ROWS aren't empty: none that has none",
            "arms 4; grow 1 9; grow 1 9; grow 3 9; grow 3 9; seed 3; pass 1; arm 0 1 = 2",
            "arms 4; grow 2 9; grow 2 9; grow 3 9; grow 3 9; seed 3; pass 1; arm 0 1 = 2",
            "arms 4; grow 2 9; grow 2 9; grow 3 9; grow 3 9; seed 1; pass 1; arm 0 1 = 0",
            "arms 3; grow 0 9; grow 2 9; grow 2 8; pass 1; each 10 = 0 1 2; arm 1 3 = 1; told 1 = 1103527590");
    }

    private static void drawBelowHowMany() {
        String two = "arms 3; grow 1 9; grow 1 9; grow 2 9; grow 2 9; ";
        String three = "arms 4; grow 1 9; grow 1 9; grow 2 9; grow 2 9; grow 3 9; grow 3 9; ";
        Script.holds("the one of a DRAW below how many: of one",
            "grow 1 9; grow 1 9; seed 3; pass 1; arm 0 1 = 0; told 1 = -984409216",
            "grow 1 9; grow 1 9; seed 30; pass 1; arm 0 1 = 0; told 1 = -1254268673");
        Script.holds("the one of a DRAW below how many: of two",
            two + "seed 1; pass 1; arm 0 1 = 0; told 1 = 1103527590",
            two + "seed 3; pass 1; arm 0 1 = 2; told 1 = -984409216",
            two + "seed 0; pass 1; arm 0 1 = 0; told 1 = 12345", two + "seed 4; pass 1; arm 0 1 = 2",
            two + "seed 10; pass 1; arm 0 1 = 2");
        Script.holds("the one of a DRAW below how many: of those whose ROWS aren't empty, not of all others",
            "arms 4; grow 2 9; grow 2 9; grow 3 9; grow 3 9; seed 2; pass 1; arm 0 1 = 0",
            "arms 4; grow 1 9; grow 1 9; grow 3 9; grow 3 9; seed 4; pass 1; arm 0 1 = 2");
        Script.holds("the one of a DRAW below how many: of three",
            three + "seed 0; pass 1; arm 0 1 = 0", three + "seed 5; pass 1; arm 0 1 = 2",
            three + "seed 1; pass 1; arm 0 1 = 4; told 1 = 1103527590", three + "seed 2; pass 1; arm 0 1 = 2",
            three + "seed 4; pass 1; arm 0 1 = 4", three + "seed 9; pass 1; arm 0 1 = 0");
    }

    private static void byNumbersOfArms() {
        String aroundOne = "arms 4; grow 0 9; grow 0 9; grow 2 9; grow 2 9; grow 3 9; grow 3 9; ";
        Script.holds("of the other ARMS, by numbers",
            aroundOne + "seed 0; pass 1; arm 1 1 = 0", aroundOne + "seed 5; pass 1; arm 1 1 = 2",
            aroundOne + "seed 1; pass 1; arm 1 1 = 4");
        String aroundThree = "arms 4; grow 2 9; grow 2 9; grow 1 9; grow 1 9; grow 0 9; grow 0 9; ";
        Script.holds("of the other ARMS, by numbers, not as TASKS are numbered",
            aroundThree + "seed 0; pass 1; arm 3 1 = 4", aroundThree + "seed 5; pass 1; arm 3 1 = 2",
            aroundThree + "seed 1; pass 1; arm 3 1 = 0");
    }

    private static void idle() {
        Script.holds("if there is none (no DRAW): IDLE is 1 more",
            "pass 1; arm 0 2 = 1; arm 1 2 = 1; told 1 = 1; arm 0 3 = 0",
            "arms 4; grow 0 9; pass 1; arm 0 2 = 0; arm 1 2 = 1; arm 2 2 = 1; arm 3 2 = 1; told 1 = 1",
            ONE_ARM + "seed 7; pass 5; arm 0 2 = 5; told 1 = 7; told 6 = 0");
        Script.holds("IDLE: not by stealing", "grow 1 9; pass 1; arm 0 2 = 0; arm 1 2 = 1; arm 0 3 = 1");
        Script.holds("IDLE: what others are at work on isn't stolen",
            "grow 0 9; pass 3; arm 1 2 = 3; arm 0 1 = 0; of 0 2 = 7");
    }

    private static void draws() {
        String three = "arms 4; grow 1 9; grow 1 9; grow 2 9; grow 2 9; grow 3 9; grow 3 9; ";
        Script.holds("SEED becomes SEED times 1103515245, and 12345 (wrapping)",
            three + "seed max; pass 1; told 1 = 1043980748; arm 0 1 = 4",
            three + "seed min; pass 1; told 1 = -2147471303; arm 0 1 = 4",
            three + "seed 30; pass 1; told 1 = -1254268673; arm 0 1 = 4",
            three + "seed 0; pass 1; told 1 = 12345; arm 0 1 = 0");
        Script.holds("its upper 16 bits (no sign)",
            three + "seed 3; pass 1; told 1 = -984409216; arm 0 1 = 2",
            three + "seed 7; pass 1; told 1 = -865315532; arm 0 1 = 0",
            three + "seed 11; pass 1; told 1 = -746221848; arm 0 1 = 4",
            three + "seed -1; pass 1; told 1 = -1103502900; arm 0 1 = 2");
        Script.holds("a DRAW after another goes on from that SEED",
            "arms 4; grow 3 9; grow 3 9; grow 3 9; grow 3 9; pass 1; told 1 = 662824084; each 10 = 0 1 2 3",
            "grow 0 1; grow 0 1; grow 0 1; grow 0 1; pass 1; told 1 = 1103527590; pass 2; told 1 = -1770082073");
    }

    private static void oneArmAfterAnother() {
        Script.holds("each ARM, by numbers: what one forks, a later one steals in the same ROUND",
            "grow 0 1(2,3); pass 2; arm 1 1 = 1; arm 1 2 = 1; row 0 = 2; of 0 0 = 2");
        Script.holds("each ARM, by numbers: what one forks, an earlier one doesn't get in that ROUND",
            "grow 0 9; grow 1 1(2,3); pass 1; cancel 0; pass 1; arm 0 2 = 1; row 1 = 2 3; pass 1; "
                + "arm 0 1 = 2; arm 1 1 = 3");
        Script.holds("each ARM, by numbers: the last of a ROW is taken by the lower one",
            "arms 3; grow 2 9; pass 1; arm 0 1 = 0; arm 1 2 = 1; arm 2 2 = 1");
        Script.holds("at work on none, as it was CANCELLED by an earlier ARM: it takes in that ROUND",
            "grow 0 1(9,1!); pass 3; grow 1 7; pass 1; each 0 = 4 5 4 1; arm 1 1 = 3; arm 1 2 = 1; of 1 2 = 8",
            "grow 0 1(9,1!); pass 4; arm 1 2 = 2; arm 0 2 = 0");
        Script.holds("at work on none, as it was CANCELLED by a later ARM: from the next ROUND on",
            "grow 0 1(1!,9); pass 3; each 0 = 4 4 5; arm 0 1 = -5; arm 0 2 = 0; arm 1 2 = 1; pass 1; "
                + "arm 0 2 = 1; arm 1 2 = 2",
            "grow 0 1(1!,9); pass 4; entries = 0 0 0 0, 1 1 1 1, 2 0 0 2, 2 1 4 1, 2 -5 5 2, 2 -5 4 0");
    }

    private static void throughFails() {
        Script.holds("if it FAILS (!): it is FAILED, with no CAUSE",
            ONE_ARM + "grow 0 2!; pass 2; of 0 0 = 1; pass 1; of 0 0 = 4; cause 0 0 = 0; cause 0 1 = -5; "
                + "of 0 3 = 0; of 0 2 = 0");
        Script.holds("if it FAILS: what is in it isn't forked",
            ONE_ARM + "grow 0 1!(2,3); pass 2; each 0 = 4 0 0; row 0 =; told 3 = 1; each 11 = -5 -5 -5; "
                + "entries = 0 0 0 0, 1 0 4 0; pass 2; arm 0 2 = 2");
        Script.holds("if it FAILS: CANCELLED ones in it don't make it DONE",
            ONE_ARM + "grow 0 1!(2); cancel 1; pass 2; each 0 = 4 5");
    }

    private static void throughForks() {
        Script.holds("those that aren't ENDED come to the near end of the ROW, one by one, by numbers",
            ONE_ARM + "grow 0 9; grow 0 1(2,3,4); pass 2; row 0 = 0 2 3 4; pass 1; arm 0 1 = 4");
        Script.holds("come to the ROW of its ARM",
            "grow 0 1(2,3); grow 0 9; pass 2; row 1 = 1 2; row 0 =; of 0 0 = 2",
            "arms 4; grow 0 9; grow 1 9; grow 2 9; grow 3 1(1,1); pass 2; row 3 = 4 5");
        Script.holds("only those in it, not those below them",
            ONE_ARM + "grow 0 1(2(3),4); pass 2; row 0 = 1 3; each 0 = 2 0 0 0");
        Script.holds("not those that are ENDED",
            ONE_ARM + "grow 0 1(2,3,4); cancel 1; pass 2; row 0 = 2 3; of 0 0 = 2",
            ONE_ARM + "grow 0 1(2,3,4); cancel 2; pass 2; row 0 = 1 3",
            ONE_ARM + "grow 0 1(2,3,4); cancel 3; cancel 2; pass 2; row 0 = 1; of 0 0 = 2");
        Script.holds("it is JOINING",
            ONE_ARM + "grow 0 1(2); pass 1; of 0 0 = 1; pass 1; of 0 0 = 2; of 0 3 = 0; of 0 2 = 0; told 6 = 1");
        Script.holds("one that CATCHES forks alike", ONE_ARM + "grow 0 1?(2,3); pass 2; row 0 = 1 2; of 0 0 = 2");
    }

    private static void throughDone() {
        Script.holds("(if all are ENDED already, it is DONE, its WORTH as below)",
            ONE_ARM + "grow 0 4(2,3); cancel 1; cancel 2; pass 5; of 0 0 = 3; of 0 3 = 4; "
                + "entries = 0 -5 5 1, 0 -5 5 2, 0 0 0 0, 4 0 3 0",
            ONE_ARM + "grow 0 4?(2(3)); cancel 1 = 2; pass 5; each 0 = 3 5 5; of 0 3 = 4");
        Script.holds("Else it is DONE, its WORTH is its WORK",
            ONE_ARM + "grow 0 7; pass 8; of 0 0 = 3; of 0 3 = 7", ONE_ARM + "grow 0 1; pass 2; of 0 3 = 1",
            ONE_ARM + "grow 0 9?; pass 10; of 0 0 = 3; of 0 3 = 9");
    }

    private static void endedOnes() {
        Script.holds("As one is ENDED by being DONE",
            ONE_ARM + "grow 0 1(1,1); pass 4; each 0 = 2 0 3; pass 2; each 0 = 3 3 3");
        Script.holds("As one is ENDED by being FAILED",
            ONE_ARM + "grow 0 1(1!); pass 3; each 0 = 2 1; pass 1; each 0 = 4 4; cause 0 1 = 1");
        Script.holds("As one is ENDED by being CANCELLED, alike",
            ONE_ARM + "grow 0 1(2,3); pass 2; cancel 1 = 1; each 0 = 2 5 0; cancel 2 = 1; each 0 = 3 5 5; of 0 3 = 1",
            ONE_ARM + "grow 0 1(2,3); pass 3; cancel 2 = 1; each 0 = 2 0 5; pass 3; each 0 = 3 3 5; of 0 3 = 3");
        Script.holds("CANCELLED is not FAILED",
            ONE_ARM + "grow 0 1(2,3); pass 2; cancel 2; of 0 0 = 2; causes = -5 -5 -5 -5 -5 -5; row 0 = 1");
        Script.holds("all in that one are ENDED: one that is JOINING isn't",
            "grow 0 1(5,1(9)); pass 7; each 0 = 2 3 2 1; pass 6; each 0 = 2 3 2 1; pass 1; each 0 = 3 3 3 3; "
                + "of 0 3 = 16",
            "grow 0 1?(5!,1(9)); pass 7; each 0 = 2 4 2 1; pass 7; each 0 = 3 4 3 3; of 0 3 = 11",
            "grow 0 1(5,1(9)); pass 4; cancel 1 = 1; each 0 = 2 5 2 0");
        Script.holds("all in that one are ENDED: the last of them tells",
            ONE_ARM + "grow 0 1(1,1,1); pass 7; each 0 = 2 1 3 3; pass 1; each 0 = 3 3 3 3");
    }

    private static void joiningAlone() {
        Script.holds("the one that it is in, if that is JOINING: not one that is WAITING",
            "grow 0 1(2); cancel 1 = 1; each 0 = 0 5; row 0 = 0; told 6 = 1");
        Script.holds("if that is JOINING: not one that is at WORK",
            ONE_ARM + "grow 0 2(2); pass 1; cancel 1 = 1; each 0 = 1 5; arm 0 1 = 0; pass 1; of 0 0 = 1; "
                + "pass 1; of 0 0 = 3");
        Script.holds("if that is JOINING: not one that is FAILED",
            ONE_ARM + "grow 0 1!(2); pass 2; cancel 1 = 1; each 0 = 4 5; told 6 = 3; cause 0 1 = -5");
        Script.holds("if that is JOINING: not one not forked yet",
            ONE_ARM + "grow 0 1(1(1)); pass 2; cancel 2 = 1; each 0 = 2 0 5; row 0 = 1; pass 2; "
                + "each 0 = 3 3 5; of 0 3 = 2");
        Script.holds("a ROOT is in none", ONE_ARM + "grow 0 1!; grow 0 1; pass 4; each 0 = 4 3; told 6 = 4");
    }

    private static void failedBelow() {
        Script.holds("all below that one (in it, in those, and so on) are CANCELLED",
            ONE_ARM + "grow 0 1(2(3(4)),1!); pass 4; each 0 = 4 5 5 5 4; row 0 =; "
                + "entries = 0 0 0 0, 2 0 0 4, 3 0 4 4, 3 -5 5 1, 3 -5 5 2, 3 -5 5 3, 3 -5 4 0");
        Script.holds("all below that one: also those in the one that FAILED",
            ONE_ARM + "grow 0 1(1!(2,3)); pass 4; each 0 = 4 4 5 5");
        Script.holds("all below that one, that aren't ENDED",
            ONE_ARM + "grow 0 1(1!,1); pass 6; each 0 = 4 4 3; of 2 3 = 1",
            ONE_ARM + "grow 0 1(1!,1,9); cancel 3; pass 6; each 0 = 4 4 3 5; told 6 = 7");
        Script.holds("all below that one: no other TREE",
            ONE_ARM + "grow 0 9(5); grow 0 1(1!); grow 0 1; cancel 4; pass 4; each 0 = 0 0 4 4 5; row 0 = 0");
        Script.holds("all below that one: not what is beside it",
            ONE_ARM + "grow 0 1?(5,1(9,1!)); pass 6; each 0 = 2 0 4 5 4; row 0 = 1");
        Script.holds("and that one is FAILED, with it as its CAUSE",
            ONE_ARM + "grow 0 1(1,1!,1); pass 6; each 0 = 4 5 4 3; cause 0 0 = 0; cause 0 1 = 2; "
                + "cause 0 2 = -5; of 0 3 = 0");
        Script.holds("those JOINING are CANCELLED, too",
            "grow 0 1(1(9),3!); pass 6; each 0 = 4 5 5 4; row 0 =; row 1 =; arm 1 1 = -5");
    }

    private static void catches() {
        Script.holds("if that one CATCHES: it stays JOINING",
            ONE_ARM + "grow 0 1?(2,1!); pass 4; each 0 = 2 0 4; row 0 = 1; told 6 = 3; pass 3; "
                + "each 0 = 3 3 4; of 0 3 = 3; causes = -5 -5 -5 -5 2 -5");
        Script.holds("it CATCHES, and all in it are ENDED: it is DONE",
            ONE_ARM + "grow 0 4?(1!); pass 7; each 0 = 3 4; of 0 3 = 4; "
                + "entries = 0 0 0 0, 5 0 0 1, 6 0 4 1, 6 -5 3 0",
            ONE_ARM + "grow 0 1?(1!,1!); pass 6; each 0 = 3 4 4; of 0 3 = 1");
        Script.holds("it CATCHES what is in it, not what is in that",
            ONE_ARM + "grow 0 1?(1(1!)); pass 6; each 0 = 3 4 4; each 3 = 1 0 0");
        Script.holds("it CATCHES: what it is in doesn't", ONE_ARM + "grow 0 1(1?,1!); pass 4; each 0 = 4 5 4");
    }

    private static void worths() {
        Script.holds("its WORTH is its own WORK and the WORTHS of all that are in it and DONE, together",
            ONE_ARM + "grow 0 1(2(3),4); pass 60; each 3 = 10 5 3 4",
            ONE_ARM + "grow 0 9(9,9,9,9,9,9); pass 60; pass 60; of 0 3 = 63");
        Script.holds("in it and DONE: not FAILED ones",
            ONE_ARM + "grow 0 1?(1(1!,5),3); pass 60; each 0 = 3 4 4 3 3; each 3 = 4 0 0 5 3");
        Script.holds("in it and DONE: not CANCELLED ones",
            ONE_ARM + "grow 0 1(5,3,2); cancel 1; pass 60; each 0 = 3 5 3 3; of 0 3 = 6");
        Script.holds("in it: not another TREE's", ONE_ARM + "grow 0 5; grow 0 1(2); pass 60; each 3 = 5 3 2");
    }

    /** The last of as many TASKS as there may be is done with like the others. */
    private static void asManyAsMayBe() {
        String eight = "1(1,1?(1!,1,1),1(1))";
        String all = ONE_ARM + "times 3 grow 0 " + eight + "; grow 0 1(1,1?(1!,1,1),1(1)); ";
        Script.holds("TASKS 0 .. 31: each is taken, and ENDED",
            all + "count 0 = 32; pass 60; count 1 = 28; pass 4; count 1 = 32; of 31 0 = 3; of 31 3 = 1; "
                + "of 24 3 = 7; told 3 = 1; on 0 1 = 28; mean 0 = 16; mean 1 = 7",
            all + "of 24 7 = 3; of 24 8 = 8; of 24 5 = 3; of 30 7 = 2; of 31 7 = 1; of 31 8 = 1; of 31 9 = 2; "
                + "of 31 4 = 30; of 31 5 = 0; told 4 = 64; till 4 = 16",
            ONE_ARM + "times 32 grow 0 1; cancel 31 = 1; of 31 0 = 5; "
                + "row 0 = 0 1 2 3 4 5 6 7 8 9 10 11 12 13 14 15 16 17 18 19 20 21 22 23 24 25 26 27 28 29 30; "
                + "cancel 0 = 1; arm 0 10 = 1",
            all + "cancel 24 = 8; of 31 0 = 5; of 23 0 = 0; see 31 39; plan 1 31; book 31 5; ends 0 = 8; "
                + "looked = -5; seeds = 0; cause 31 0 = -5");
    }

    private static void upward() {
        Script.holds("And so on upward: DONE",
            ONE_ARM + "grow 0 1(1(1(1(1)))); pass 9; each 0 = 2 2 2 2 1; pass 1; each 0 = 3 3 3 3 3; "
                + "each 3 = 5 4 3 2 1; trace 5 3 = 4; trace 6 3 = 3; trace 6 1 = -5; trace 7 3 = 2; trace 8 3 = 1; "
                + "trace 9 3 = 0; trace 9 0 = 9; told 6 = 10");
        Script.holds("And so on upward: FAILED",
            ONE_ARM + "grow 0 1(1(1(1(1!)))); pass 9; each 0 = 2 2 2 2 1; pass 1; each 0 = 4 4 4 4 4; "
                + "causes = 0 1 1 2 2 3 3 4 4 -5");
        Script.holds("And so on upward: CANCELLED, then DONE",
            ONE_ARM + "grow 0 1(1(1(1(1)))); pass 9; cancel 4 = 1; each 0 = 3 3 3 3 5; each 3 = 4 3 2 1 0");
        Script.holds("And so on upward: FAILED, caught, then DONE",
            ONE_ARM + "grow 0 1(1(1?(1(1!)))); pass 10; each 0 = 3 3 3 4 4; each 3 = 3 2 1 0 0");
        Script.holds("And so on upward: up to one that has others",
            ONE_ARM + "grow 0 1(9,1(1(1))); pass 8; each 0 = 2 0 3 3 3; row 0 = 1");
        Script.holds("And so on upward: FAILED reaches what is beside at each",
            ONE_ARM + "grow 0 1(9,1(8,1(7,1!))); pass 8; each 0 = 4 5 4 5 4 5 4; row 0 =; trace 4 2 = 4; "
                + "trace 4 3 = 6; trace 5 3 = 5; trace 6 3 = 4; trace 7 3 = 3; trace 8 3 = 2; trace 9 3 = 1; "
                + "trace 10 3 = 0; told 6 = 11");
    }

    private static void cancelled() {
        Script.holds("cancel: a TASK, and all below it that aren't ENDED; how many are by that",
            "grow 0 1(2(3(4)),5); cancel 0 = 5; each 0 = 5 5 5 5 5",
            "grow 0 1(2(3(4)),5); cancel 1 = 3; each 0 = 0 5 5 5 0",
            "grow 0 1(2(3(4)),5); cancel 2; cancel 0 = 3; each 0 = 5 5 5 5 5; told 6 = 5",
            ONE_ARM + "grow 0 1(1,1(1)); pass 6; each 0 = 2 0 3 3; cancel 0 = 2; each 0 = 5 5 3 3; each 3 = 0 0 2 1",
            "grow 0 1; cancel 0 = 1; of 0 0 = 5; of 0 2 = 1; of 0 3 = 0");
        Script.holds("CANCELLED: what is below isn't what has a higher number",
            "grow 0 1(2,3); grow 0 4(5); cancel 0 = 3; each 0 = 5 5 5 0 0; row 0 = 3",
            "grow 0 1(2(3),4); cancel 1 = 2; each 0 = 0 5 5 0");
        Script.holds("CANCELLED: they are in no ROW",
            "grow 0 1; grow 0 1; grow 0 1; cancel 0; row 0 = 1 2; each 11 = -5 0 0",
            "grow 0 1; grow 0 1; grow 0 1; cancel 1; row 0 = 0 2; arm 0 12 = -5",
            "grow 0 1; grow 0 1; grow 0 1; cancel 2; row 0 = 0 1; arm 0 0 = 2",
            "arms 4; grow 3 1; grow 3 2; cancel 0; row 3 = 1",
            ONE_ARM + "grow 0 1(1(1,1),9); grow 0 5; cancel 4; cancel 5; pass 4; row 0 = 2 3; cancel 1 = 3; "
                + "row 0 =; each 0 = 3 5 5 5 5 5");
        Script.holds("CANCELLED: no ARM is at work on them",
            "grow 0 9; grow 1 9; pass 3; cancel 0 = 1; arm 0 1 = -5; of 0 10 = -5; of 0 2 = 7; arm 1 1 = 1; "
                + "pass 1; arm 0 2 = 1; of 0 2 = 7",
            "arms 4; grow 3 9; grow 2 9; grow 1 9; grow 0 9; pass 1; cancel 0; arm 3 1 = -5; arm 2 1 = 1; "
                + "arm 0 1 = 3");
        Script.holds("cancel: a JOINING one, with all below it",
            "grow 0 1(5(1),5); pass 3; each 0 = 2 1 0 1; cancel 0 = 4; arm 0 1 = -5; arm 1 1 = -5; told 3 = 1");
        Script.holds("cancel: no DRAW, no ROUND, no IDLE",
            "grow 0 1; pass 0; cancel 0; told 1 = 1; told 0 = 0; arm 0 2 = 0; arm 1 2 = 0");
        Script.holds("cancel: one not forked yet", "grow 0 9(1,1); cancel 2 = 1; each 0 = 0 0 5; row 0 = 0");
    }

    private static void cancelledAhead() {
        Script.holds("nothing is DONE or FAILED by that but what the one told is in",
            ONE_ARM + "grow 0 1(1(1(5))); pass 7; each 0 = 2 2 2 1; cancel 1 = 3; each 0 = 3 5 5 5; "
                + "of 0 3 = 1; entries = 0 0 0 0, 2 0 0 1, 4 0 0 2, 6 0 0 3, 7 -5 5 1, 7 -5 5 2, 7 -5 5 3, 7 -5 3 0",
            ONE_ARM + "grow 0 1(1(1(5))); pass 7; cancel 0 = 4; each 0 = 5 5 5 5; told 6 = 8",
            ONE_ARM + "grow 0 1(1(1(5))); pass 7; cancel 2 = 2; each 0 = 3 3 5 5; each 3 = 2 1 0 0");
        Script.holds("CANCELLED by a FAILED one: nothing below is DONE by that",
            "grow 0 1(1(9),3!); pass 6; each 0 = 4 5 5 4; "
                + "entries = 0 0 0 0, 1 1 1 1, 2 0 0 3, 3 1 0 2, 5 0 4 3, 5 -5 5 1, 5 -5 5 2, 5 -5 4 0");
    }

    private static void cancelRefused() {
        Script.holds("cancel: NONE",
            "cancel 0 = NONE",
            "grow 0 1(1); cancel 2 = NONE; cancel -1 = NONE; cancel min = NONE; cancel max = NONE; "
                + "cancel -5 = NONE; count 1 = 0; cancel 1 = 1");
        Script.holds("cancel: STATE, it is ENDED",
            ONE_ARM + "grow 0 1; pass 2; of 0 0 = 3; cancel 0 = STATE; of 0 0 = 3; told 6 = 2",
            ONE_ARM + "grow 0 1!; pass 2; of 0 0 = 4; cancel 0 = STATE; of 0 0 = 4",
            "grow 0 1(1); cancel 0 = 2; cancel 0 = STATE; cancel 1 = STATE; told 6 = 2");
        Script.holds("cancel: not STATE, it isn't ENDED",
            ONE_ARM + "grow 0 1; cancel 0 = 1", ONE_ARM + "grow 0 1; pass 1; cancel 0 = 1",
            ONE_ARM + "grow 0 1(1); pass 2; of 0 0 = 2; cancel 0 = 2");
    }

    private static void trace() {
        Script.holds("THE TRACE: taken, stolen, DONE, FAILED or CANCELLED, in their order",
            "grow 0 1?(2!,1); grow 0 3; pass 2; cancel 3; pass 60; "
                + "entries = 0 0 0 3, 0 1 1 0, 2 -5 5 3, 2 0 1 1, 2 1 0 2, 3 1 3 2, 4 0 4 1, 4 -5 3 0");
        Script.holds("THE TRACE: none at first",
            "told 6 = 0; trace 0 0 = NONE", "grow 0 1; told 6 = 0; pass 1; told 6 = 1; entries = 0 0 0 0");
        Script.holds("the ROUND of what is CANCELLED by hand", "pass 60; grow 0 1; cancel 0; entries = 60 -5 5 0");
        Script.holds("the ARM: of one that is THROUGH its own",
            "arms 4; grow 3 1; grow 2 1!; grow 1 9; grow 0 9; pass 2; "
                + "entries = 0 0 0 3, 0 1 0 2, 0 2 0 1, 0 3 0 0, 1 2 4 1, 1 3 3 0");
        Script.holds("the ARM: of one DONE as all in it were ENDED already, its own",
            ONE_ARM + "grow 0 1(1); cancel 1; pass 2; entries = 0 -5 5 1, 0 0 0 0, 1 0 3 0");
        Script.holds("the ARM: by CANCELLED, and by what comes upward: -5",
            ONE_ARM + "grow 0 1(1); pass 4; entries = 0 0 0 0, 2 0 0 1, 3 0 3 1, 3 -5 3 0",
            ONE_ARM + "grow 0 1(9,1!); pass 4; entries = 0 0 0 0, 2 0 0 2, 3 0 4 2, 3 -5 5 1, 3 -5 4 0");
        Script.holds("of those CANCELLED together by numbers",
            ONE_ARM + "grow 0 1(1,1,1); pass 3; cancel 0 = 4; "
                + "entries = 0 0 0 0, 2 0 0 3, 3 -5 5 0, 3 -5 5 1, 3 -5 5 2, 3 -5 5 3");
        Script.holds("what is stolen isn't taken, too", "grow 1 1; pass 1; entries = 0 0 1 0");
    }

    private static void traceIsFull() {
        String many = ONE_ARM + "times 22 grow 0 1; ";
        Script.holds("the latest 40",
            many + "pass 39; told 6 = 39; trace 0 0 = 0; trace 38 0 = 38; trace 39 0 = NONE",
            many + "pass 40; told 6 = 40; trace 0 0 = 0; trace 0 3 = 21; trace 39 0 = 39; trace 40 0 = NONE",
            many + "pass 41; told 6 = 40; trace 0 0 = 1; trace 0 3 = 21; trace 0 2 = 3; trace 39 0 = 40; "
                + "trace 39 3 = 1; trace 40 0 = NONE",
            many + "pass 44; told 6 = 40; trace 0 0 = 4; trace 0 3 = 19; trace 39 0 = 43; trace 39 3 = 0; "
                + "trace 20 0 = 24; trace 20 3 = 9");
        Script.holds("the latest 40: 32 CANCELLED at once behind others",
            TEN + TEN + TEN + ONE_ARM + "pass 20; grow 0 1(1); cancel 30; cancel 0; cancel 1; told 6 = 24; "
                + "pass 17; told 6 = 40; trace 0 0 = 1; trace 39 0 = 36; trace 19 2 = 5; trace 19 3 = 30; "
                + "trace 20 3 = 31; trace 22 3 = 1");
    }

    private static void traceRefused() {
        Script.holds("trace: NONE, k",
            "trace 0 0 = NONE; trace -1 0 = NONE",
            "grow 0 1; pass 1; trace 0 0 = 0; trace 1 0 = NONE; trace -1 0 = NONE; trace min 0 = NONE; "
                + "trace max 0 = NONE; trace 39 0 = NONE; trace 40 0 = NONE");
        Script.holds("trace: NONE, what",
            "grow 0 1; pass 1; trace 0 3 = 0; trace 0 4 = NONE; trace 0 -1 = NONE; trace 0 min = NONE; "
                + "trace 0 max = NONE");
        Script.holds("trace: NONE, both", "grow 0 1; pass 1; trace 1 4 = NONE; trace -1 -1 = NONE");
    }
}
