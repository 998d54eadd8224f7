/**
 * What is answered by a refusal changes nothing, and what is asked changes nothing: each such call by itself, and
 * then all that can be seen of the object, and all that comes of it, is as it is of a twin without that call.
 */
public final class NothingChangesTest {
    private static final String NEW = "";
    /** TASKS on their way, an IMAGE of another state, told rows, TAPES of each sort but 5, that holds nothing. */
    private static final String BUSY = "arms 3; grow 0 1?(9,2!); grow 0 3; grow 1 1; grow 2 7(2); grow 2 5; pass 2; image; "
        + "pass 4; seed 77; put 0 0 2 3 4 5 6; put 1 1 1 2; put 2 4 1 0; put 3 2 8 9 7; put 4 3 4; type 5(3!,; "
        + "see 1 0; see 2 1; plan 0 0; plan 1 1; book 0 2; book 1 1";
    /** As much of all as there may be: TASKS, entries, SEEN, the PLAN, the BOOK, THE TEXT; all told is so. */
    private static final String FULL = "grow 0 " + thirtyTwo() + "; pass 12; image; pass 17; told 6 = 40; "
        + "times 5 see 9 0; seeds = 2147483647; times 9 plan 0 0; plan 1 13; times 7 book 13 0; book 9 1; looked = -5; "
        + "type 3(1,; times 96 feed 49; tape 0 3 60";
    /** All is ENDED, and ROUND is near its last. */
    private static final String LATE = "arms 1; grow 0 1(1!,1); grow 0 2; image; times 166 pass 60; pass 38; see 0 0; "
        + "plan 0 0; book 0 4; type 1";

    private static final String[] QUESTIONS = {"told 3", "told 4", "told 5", "told 6", "told 7", "on 0 0", "on 60 1",
        "on 60 2", "on 7 3", "on 61 0", "on 0 4", "till 1", "till 2", "till 3", "till 4", "till 5", "seeds", "odds 60 0",
        "odds 5 1", "odds 0 0", "odds 61 0", "mean 0", "mean 1", "mean 2", "ends 0", "ends 1", "ends 2", "looked",
        "judge 0 0", "judge 5 -1", "judge 1 0", "judge 6 0", "count 1", "count 6", "of 0 7", "of 0 8", "of 0 9",
        "of 0 10", "of 0 11", "of 99 0", "cause 0 1", "cause 0 -1", "arm 0 0", "arm 0 10", "arm 1 2", "arm 9 0",
        "trace 0 3", "trace 39 0", "trace 40 0", "read 0 0", "read 5 0", "read 6 0"};

    public static void main(String[] args) {
        refusedInAnyState(NEW);
        refusedInAnyState(BUSY);
        refusedWhenNew();
        refusedWhenBusy();
        refusedWhenFull();
        refusedWhenLate();
        treesThatAreNone();
        asked(NEW);
        asked(BUSY);
        asked(LATE);
        asked(FULL);
        Check.end("NothingChangesTest");
    }

    private static String thirtyTwo() {
        String six = "1?(2,1!,3,1,2)";
        return "1(" + six + "," + six + "," + six + "," + six + "," + six + ",1)";
    }

    private static void refused(String before, String... calls) {
        for (String call : calls) {
            Script.changesNothing("What is answered so changes nothing", before, call);
        }
    }

    private static void refusedInAnyState(String before) {
        refused(before, "arms 0 = BAD", "arms 5 = BAD", "arms min = BAD", "arms max = BAD");
        refused(before, "feed -1 = BAD", "feed 128 = BAD", "feed min = BAD", "feed max = BAD");
        refused(before, "tree -1 = NONE", "tree 3 = NONE", "tree min = NONE", "tree max = NONE");
        refused(before, "pass -1 = BAD", "pass 61 = BAD", "pass min = BAD", "pass max = BAD");
        refused(before,
            "cancel -1 = NONE", "cancel 8 = NONE", "cancel 32 = NONE", "cancel min = NONE", "cancel max = NONE");
        refused(before, "see 8 0 = NONE", "see -2 0 = NONE", "see 8 40 = NONE", "see max -1 = NONE");
        refused(before,
            "plan 3 0 = NONE", "plan -2 0 = NONE", "plan 1 8 = NONE", "plan 1 -1 = NONE", "plan min 0 = NONE");
        refused(before, "book 8 0 = NONE", "book -2 0 = NONE", "book 8 6 = NONE", "book max -1 = NONE");
        refused(before,
            "tape 6 0 3 = NONE", "tape -1 -1 0 = NONE", "tape 0 5 3 = BAD", "tape 0 -2 0 = BAD", "tape 0 0 61 = BAD",
            "tape 0 0 -1 = SIZE", "tape 1 1 min = SIZE", "tape 0 0 max = BAD");
        refused(before, "item 6 0 9 = NONE", "item -1 0 9 = NONE", "item 5 0 9 = NOTHING", "item 5 -1 9 = NOTHING");
        refused(before,
            "shift 6 0 0 0 1 = NONE", "shift 0 0 -1 0 1 = NONE", "shift 5 0 0 0 1 = NOTHING",
            "shift 0 0 5 0 1 = NOTHING");
    }

    private static void refusedWhenNew() {
        refused(NEW,
            "undo = STATE", "tree 2 = NONE", "cancel 0 = NONE", "see 0 0 = NONE", "plan 1 0 = NONE",
            "book 0 0 = NONE", "item 0 0 1 = NOTHING", "shift 0 0 1 0 0 = NOTHING");
    }

    private static void refusedWhenBusy() {
        refused(BUSY, "cancel 3 = STATE", "cancel 7 = STATE", "see 0 40 = BAD", "see 0 -1 = BAD", "see 7 min = BAD");
        refused(BUSY, "book 0 6 = BAD", "book 0 -1 = BAD", "book 7 max = BAD");
        refused(BUSY, "item 0 5 9 = PLACE", "item 0 -1 9 = PLACE", "item 4 1 9 = PLACE", "item 2 max 1 = PLACE");
        refused(BUSY,
            "shift 0 0 1 0 1 = CAST", "shift 3 0 4 0 1 = CAST", "shift 0 0 0 1 5 = PLACE", "shift 0 1 0 0 5 = PLACE",
            "shift 0 -1 0 0 2 = PLACE", "shift 0 0 0 -1 2 = PLACE", "shift 0 0 0 1 -1 = PLACE",
            "shift 0 1 0 2 max = PLACE");
        refused(BUSY + "; cancel 5; cancel 2", "cancel 5 = STATE", "cancel 6 = STATE", "cancel 2 = STATE");
    }

    private static void refusedWhenFull() {
        refused(FULL, "feed 49 = FULL", "feed 41 = FULL", "feed 0 = FULL", "feed 128 = BAD");
        refused(FULL, "see 0 0 = FULL", "see 31 39 = FULL", "see 0 40 = BAD", "see 32 0 = NONE");
        refused(FULL, "plan 0 0 = FULL", "plan 1 0 = FULL", "plan 2 5 = FULL", "plan 1 32 = NONE", "plan 3 0 = NONE");
        refused(FULL, "book 0 0 = FULL", "book 31 5 = FULL", "book 0 6 = BAD", "book 32 0 = NONE");
        refused(FULL,
            "tree 2 = NONE", "cancel 32 = NONE", "item 0 60 1 = PLACE", "shift 0 0 0 1 60 = PLACE",
            "shift 0 0 0 0 61 = PLACE");
    }

    private static void refusedWhenLate() {
        refused(LATE,
            "pass 2 = STATE", "pass 60 = STATE", "pass 61 = BAD", "pass -1 = BAD", "cancel 0 = STATE",
            "cancel 1 = STATE", "cancel 2 = STATE");
        refused(LATE + "; pass 1 = 9999", "pass 1 = STATE", "pass 60 = STATE", "pass 61 = BAD");
    }

    /** THE TEXT is empty then, and no more is another. */
    private static void treesThatAreNone() {
        Script.alike("a FAULT: nothing but THE TEXT is another",
            BUSY + "; tree 0 = -15", BUSY + "; type ); tree 2 = -15");
        Script.alike("a FAULT: nothing but THE TEXT is another", "type 1(1,1; tree 0 = -15", "");
        Script.alike("a FAULT: an empty TEXT", "tree 0 = -10", "");
        String full = "grow 0 " + thirtyTwo() + "; pass 5; image; pass 4";
        Script.alike("FULL: nothing but THE TEXT is another", full + "; type 1(1); tree 0 = FULL", full);
        Script.alike("FULL: nothing but THE TEXT is another",
            BUSY + "; tree 0; grow 0 1(1(1,1,1,1,1),1(1,1,1,1,1),1(1,1,1,1,1),1(1,1,1,1,1)) = FULL",
            BUSY + "; tree 0");
    }

    private static void asked(String before) {
        for (String call : QUESTIONS) {
            Script.changesNothing("what is asked changes nothing", before, call);
        }
    }
}
