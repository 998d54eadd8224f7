/** JUDGED, THE IMAGE, TAPES; promises 23 to 30: each sentence that names an edge, by itself. */
public final class TapeEdgesTest {
    /** Five TASKS of the WORTHS 6 1 3 0 5. */
    private static final String WORTHS = "arms 1; grow 0 2(1,3); grow 0 4!; grow 0 5; pass 60; ";
    /** Much of all: TASKS on their way, told rows, an odd SEED. */
    private static final String BUSY = "arms 3; grow 0 1?(9,2!); grow 0 3; grow 1 1; grow 2 7(2); grow 2 5; pass 6; "
        + "seed 77; ";

    public static void main(String[] args) {
        judged();
        judgedNone();
        judgedShort();
        judgedWithoutTasks();
        judgeRefused();
        image();
        imageOfArms();
        imageOfAFullTrace();
        imageOfTasks();
        imageOfTold();
        imageHoldsNoMore();
        count();
        tape();
        tapeRefused();
        item();
        lowestBits();
        itemRefused();
        read();
        shift();
        shiftOfTheSame();
        shiftRefused();
        shiftPlaces();
        Check.end("TapeEdgesTest");
    }

    private static void judged() {
        Script.holds("JUDGED: the first that is otherwise",
            WORTHS + "put 0 0 6 1 3 0 4; judge 0 0 = 4", WORTHS + "put 0 0 5 1 3 0 5; judge 0 0 = 0",
            WORTHS + "put 0 0 6 2 4 1 6; judge 0 0 = 1", WORTHS + "put 0 0 6 1 3 1 5; judge 0 0 = 3");
        Script.holds("JUDGED: counted from 0 from that place on",
            WORTHS + "put 0 0 9 9 6 1 3 0 4; judge 0 2 = 4; judge 0 0 = 0; judge 0 1 = 0",
            WORTHS + "put 3 0 9 6 0; judge 3 1 = 1");
        Script.holds("JUDGED: WORTHS of TASKS as they are now, TASK by TASK",
            "arms 1; grow 0 2; put 0 0 0; judge 0 0 = -5; pass 3; judge 0 0 = 0; item 0 0 2; judge 0 0 = -5");
        Script.holds("JUDGED: a byte with its sign",
            "arms 1; grow 0 9(9(9,9,9),9(9,9,9),9(9,9,9),9(9,9,9)); pass 60; pass 60; pass 60; of 0 3 = 153; "
                + "put 0 0 153 36; read 0 0 = -103; judge 0 0 = 0",
            "arms 1; grow 0 1(9(9,9,9),9(9,9,9),9(9,9,9),9(9)); pass 60; pass 60; pass 60; of 0 3 = 127; "
                + "put 0 0 127; judge 0 0 = 101");
    }

    private static void judgedNone() {
        Script.holds("JUDGED: -5, none",
            WORTHS + "put 0 0 6 1 3 0 5; judge 0 0 = -5", WORTHS + "put 5 0 9 6 1 3 0 5 9; judge 5 1 = -5",
            WORTHS + "put 5 0 9 6 1 3 0 5; judge 5 1 = -5");
        Script.holds("JUDGED: the row is as long as may be",
            "times 31 grow 0 1; tape 0 0 60; judge 0 29 = -5; judge 0 28 = -5; judge 0 30 = 130; item 0 59 1; "
                + "judge 0 29 = 30; judge 0 28 = -5");
    }

    private static void judgedShort() {
        Script.holds("JUDGED: 100 and how many were looked at, if the row ends ahead of that",
            WORTHS + "put 0 0 6 1 3 0; judge 0 0 = 104", WORTHS + "put 0 0 6; judge 0 0 = 101",
            WORTHS + "put 0 0 9 6 1; judge 0 1 = 102", WORTHS + "tape 0 0 0; judge 0 0 = 100");
        Script.holds("JUDGED: otherwise ahead of the row's end",
            WORTHS + "put 0 0 6 1 4; judge 0 0 = 2", WORTHS + "put 0 0 7; judge 0 0 = 0");
        Script.holds("JUDGED: a place at the row's end, or beyond it",
            WORTHS + "put 0 0 6 1 3 0 5; judge 0 5 = 100; judge 0 6 = 100; judge 0 60 = 100; "
                + "judge 0 max = 100; judge 0 4 = 0");
        Script.holds("JUDGED: 100, the place is below 0",
            WORTHS + "put 0 0 6 1 3 0 5; judge 0 -1 = 100; judge 0 min = 100; judge 0 0 = -5");
        Script.holds("JUDGED: 100, the TAPE holds nothing",
            WORTHS + "judge 0 0 = 100; judge 0 -1 = 100; judge 0 7 = 100; judge 0 max = 100; judge 0 min = 100",
            WORTHS + "put 1 0 6; tape 1 -1 0; judge 1 0 = 100");
    }

    private static void judgedWithoutTasks() {
        Script.holds("JUDGED: -5, there are no TASKS (wherever the place is)",
            "tape 0 0 3; judge 0 0 = -5; judge 0 -1 = -5; judge 0 3 = -5; judge 0 4 = -5; judge 0 min = -5; "
                + "judge 0 max = -5",
            "tape 0 0 0; judge 0 0 = -5");
        Script.holds("JUDGED: -5, no TASKS, also if the TAPE holds nothing",
            "judge 0 0 = -5; judge 5 -1 = -5; judge 0 max = -5; judge 0 min = -5");
    }

    private static void judgeRefused() {
        Script.holds("judge: NONE, tape",
            "judge 0 0 = -5; judge 5 0 = -5; judge 6 0 = NONE; judge -1 0 = NONE; judge min 0 = NONE; "
                + "judge max 0 = NONE",
            WORTHS + "judge 6 -1 = NONE");
        for (int sort = 1; sort < 5; sort++) {
            Script.holds("judge: CAST, it is no row of bytes",
                WORTHS + "tape 0 " + sort + " 5; judge 0 0 = CAST; judge 0 5 = CAST",
                WORTHS + "tape 0 " + sort + " 0; judge 0 0 = CAST");
            Script.holds("judge: CAST wherever the place is",
                WORTHS + "tape 0 " + sort + " 5; judge 0 -1 = CAST; judge 0 max = CAST; judge 0 min = CAST");
            Script.holds("judge: CAST, no TASKS", "tape 0 " + sort + " 5; judge 0 0 = CAST; judge 0 -1 = CAST");
        }
    }

    private static void image() {
        Script.holds("undo: STATE, there is none",
            "undo = STATE", "grow 0 1; pass 1; undo = STATE; told 0 = 1", "arms 4; undo = STATE; told 2 = 4");
        Script.holds("image, undo: how many TASKS",
            "image = 0; undo = 0",
            "grow 0 1(1); image = 2; grow 0 1; count 0 = 3; undo = 2; count 0 = 2; of 2 0 = NONE",
            "grow 0 1; image = 1; undo = 1; undo = 1");
        Script.holds("THE IMAGE stays",
            "grow 0 1; image; pass 2; undo; told 0 = 0; pass 3; undo; told 0 = 0; pass 4; undo; told 0 = 0; "
                + "of 0 0 = 0");
        Script.holds("THE IMAGE is taken anew",
            "image; pass 2; image; pass 3; undo; told 0 = 2; pass 1; undo; told 0 = 2");
        Script.holds("what is done later doesn't change THE IMAGE",
            "grow 0 2(1); image = 2; pass 60; seed 5; arms 4; grow 3 1; cancel 2; undo = 2; each 0 = 0 0; "
                + "each 2 = 2 1; row 0 = 0; told 1 = 1; told 2 = 2; told 6 = 0");
        Script.holds("THE IMAGE of a new object",
            "image = 0; arms 4; grow 0 9; pass 9; see 0 0; undo = 0; count 0 = 0; told 0 = 0; told 1 = 1; "
                + "told 2 = 2; told 6 = 0; count 2 = 0; arm 1 2 = 0; tree 0 = -10; grow 0 1 = 0");
    }

    private static void imageOfArms() {
        Script.holds("THE IMAGE: ARMS, how many",
            "arms 3; image; arms 1; undo; told 2 = 3", "arms 1; image; arms 4; undo; told 2 = 1; arm 1 0 = NONE");
        Script.holds("THE IMAGE: ARMS, their ROWS",
            "grow 0 1; grow 0 1; grow 1 1; image; pass 1; undo; row 0 = 0 1; row 1 = 2",
            "arms 3; grow 2 1; image; arms 1; undo; row 2 = 0; row 0 =",
            "grow 0 1; grow 0 1; image; cancel 0; undo; row 0 = 0 1");
        Script.holds("THE IMAGE: ARMS, what they are at work on",
            BUSY + "image = 8; each 10 = -5 0 1 -5 -5 -5 -5 -5; pass 60; undo; each 10 = -5 0 1 -5 -5 -5 -5 -5",
            "grow 0 5; pass 1; image; cancel 0; undo; arm 0 1 = 0; of 0 0 = 1");
        Script.holds("THE IMAGE: ARMS, IDLE and STOLE",
            "grow 1 9; pass 3; image; pass 20; undo; arm 0 3 = 1; arm 0 2 = 0; arm 1 2 = 3; on 0 2 = 3; on 0 3 = 1",
            "arms 4; pass 2; image; arms 1; undo; arm 3 2 = 2");
        Script.holds("THE IMAGE: SEED",
            "seed 5; image; seed 6; undo; told 1 = 5",
            "grow 1 1; image; pass 1; told 1 = 1103527590; undo; told 1 = 1");
        Script.holds("THE IMAGE: ROUND", "pass 7; image = 0; pass 60; undo; told 0 = 7; pass 1 = 8");
        Script.holds("THE IMAGE: THE TRACE",
            "arms 1; grow 0 1; grow 0 1; pass 3; image; pass 1; undo; entries = 0 0 0 1, 1 0 3 1, 2 0 0 0; "
                + "pass 1; entries = 0 0 0 1, 1 0 3 1, 2 0 0 0, 3 0 3 0",
            "arms 1; times 25 grow 0 1; pass 45; image; pass 5; undo; told 6 = 40; trace 0 0 = 5; "
                + "trace 39 0 = 44; pass 1; trace 0 0 = 6; trace 39 0 = 45",
            "image; grow 0 1; pass 1; undo; told 6 = 0");
    }

    private static void imageOfAFullTrace() {
        String was = "arms 2; times 25 grow 0 1; pass 30; told 6 = 40; image";
        Script.alike("THE IMAGE: THE TRACE, each entry, though 40 others came",
            was + "; arms 1; times 7 grow 0 1!; pass 60; cancel 5; undo", was);
        Script.alike("THE IMAGE: THE TRACE, each entry, though 40 others came",
            "arms 1; times 32 grow 0 1!; pass 20; image; arms 4; pass 60; undo",
            "arms 1; times 32 grow 0 1!; pass 20; image");
    }

    private static void imageOfTasks() {
        Script.holds("THE IMAGE: TASKS, what they are",
            BUSY + "each 0 = 2 1 1 3 3 0 0 3; image; pass 60; undo; each 0 = 2 1 1 3 3 0 0 3");
        Script.holds("THE IMAGE: TASKS, LEFT",
            BUSY + "each 2 = 0 8 1 0 0 7 2 0; image; pass 60; undo; each 2 = 0 8 1 0 0 7 2 0");
        Script.holds("THE IMAGE: TASKS, WORTH",
            "arms 1; grow 0 2(1,3); pass 6; image; pass 60; each 3 = 6 1 3; undo; each 3 = 0 0 0; pass 1; "
                + "each 3 = 0 0 3; image; undo; each 3 = 0 0 3");
        Script.holds("THE IMAGE: TASKS, their CAUSES",
            "arms 1; grow 0 1(1!,1); pass 3; image; pass 9; cause 0 1 = 1; undo; cause 0 1 = -5; cause 0 0 = -5",
            "arms 1; grow 0 1(1!); pass 4; image; undo; cause 0 1 = 1");
        Script.alike("THE IMAGE: TASKS that come behind it are gone, others come",
            "image; grow 0 1(9?(4!),5!); of 0 7; of 0 8; pass 60; undo = 0; grow 0 2?(3,4)", "image; grow 0 2?(3,4)");
        Script.holds("THE IMAGE: TASKS that come behind it are gone, others come",
            "image; grow 0 1(9); of 0 7 = 10; arms 1; pass 60; each 0 = 3 3; undo; grow 0 1(2) = 0; "
                + "of 0 7 = 3; each 0 = 0 0; each 2 = 1 2; each 3 = 0 0; told 5 = 2");
        Script.holds("THE IMAGE: TASKS, what they are in, how they are marked",
            "grow 0 1(2!,3?); image; grow 0 4(5); undo = 3; grow 0 6?(7!,8) = 3; each 4 = -5 0 0 -5 3 3; "
                + "each 6 = 0 1 2 2 1 0; each 1 = 1 2 3 6 7 8",
            "grow 0 1(2!,3?); image = 3; undo; each 4 = -5 0 0; each 6 = 0 1 2; each 1 = 1 2 3");
    }

    private static void imageOfTold() {
        Script.holds("THE IMAGE: SEEN",
            "grow 0 1; see 0 0; image; see 0 3; see 0 3; undo; count 2 = 1; seeds = 2147483647",
            "grow 0 1; see 0 0; image; see -1 0; see 0 3; undo; count 2 = 1; seeds = 2147483647",
            "grow 0 1; image; see 0 9; undo; count 2 = 0; seeds = 2147483647");
        Script.holds("THE IMAGE: the PLAN",
            "grow 0 1; plan 1 0; image; plan 0 0; undo; count 3 = 1; ends 0 = 1",
            "grow 0 1; plan 1 0; image; plan -1 0; plan 0 0; undo; count 3 = 1; ends 0 = 1",
            "grow 0 1; image; plan 1 0; undo; count 3 = 0; ends 0 = 0");
        Script.holds("THE IMAGE: the BOOK",
            "grow 0 1; book 0 0; image; book 0 5; undo; count 4 = 1; looked = -5",
            "grow 0 1; book 0 5; image; book -1 0; book 0 0; undo; count 4 = 1; looked = 0",
            "grow 0 1; image; book 0 5; undo; count 4 = 0; looked = -5");
    }

    private static void imageHoldsNoMore() {
        Script.holds("THE IMAGE holds no TEXT",
            "type 1(; image; type 2; undo; count 5 = 3; type ); tree 0 = 0; each 1 = 1 2",
            "type 1; image; tree 0 = 0; undo; count 5 = 0; count 0 = 0");
        Script.holds("THE IMAGE holds no TAPES",
            "put 0 2 7 8; image; item 0 0 9; tape 1 0 2; undo; items 0 = 9 8; items 1 = 0 0",
            "put 0 2 7; image; tape 0 -1 0; undo; items 0 =");
    }

    private static void count() {
        Script.holds("count: what 0 .. 5",
            "grow 0 1(1!,2); cancel 1; see 0 0; times 2 plan 0 0; times 3 book 0 0; type 12345; count 0 = 3; "
                + "count 1 = 1; count 2 = 1; count 3 = 2; count 4 = 3; count 5 = 5");
        Script.holds("count 1: ENDED, be they DONE, FAILED or CANCELLED",
            "arms 1; grow 0 1; pass 1; count 1 = 0; pass 1; count 1 = 1", "arms 1; grow 0 1!; pass 2; count 1 = 1",
            "grow 0 1; cancel 0; count 1 = 1", "arms 1; grow 0 1(1); pass 2; count 1 = 0");
        Script.holds("count: the most there may be",
            "grow 0 1; times 5 see 0 0; times 10 plan 0 0; times 8 book 0 0; times 100 feed 49; count 2 = 5; "
                + "count 3 = 10; count 4 = 8; count 5 = 100");
        Script.holds("count: BAD", "count 5 = 0; count 6 = BAD; count -1 = BAD; count min = BAD; count max = BAD");
    }

    private static void tape() {
        Script.holds("TAPES 0 .. 5 hold nothing (at first)",
            "items 0 =; items 1 =; items 2 =; items 3 =; items 4 =; items 5 =",
            "item 0 0 0 = NOTHING; item 5 0 0 = NOTHING; shift 0 0 0 0 0 = NOTHING; shift 5 0 5 0 0 = NOTHING");
        Script.holds("tape: a row of n of a sort, all 0",
            "tape 0 0 3 = 1; items 0 = 0 0 0", "tape 1 1 1 = 1; items 1 = 0", "tape 2 2 2 = 1; items 2 = 0 0",
            "tape 3 3 4 = 1; items 3 = 0 0 0 0", "tape 4 4 2 = 1; items 4 = 0 0",
            "put 5 3 7 8 9; tape 5 3 2 = 1; items 5 = 0 0; tape 5 3 4 = 1; items 5 = 0 0 0 0",
            "put 5 3 7 8 9; tape 5 0 3 = 1; items 5 = 0 0 0; item 5 0 300; read 5 0 = 44");
        Script.holds("tape: n (0 .. 60)",
            "tape 0 0 0 = 1; items 0 =; item 0 0 0 = PLACE",
            "tape 0 0 60 = 1; read 0 59 = 0; read 0 60 = NO; item 0 59 7 = 1; item 0 60 7 = PLACE; read 0 59 = 7",
            "tape 0 3 61 = BAD; item 0 0 0 = NOTHING", "tape 0 3 max = BAD", "tape 0 3 -1 = SIZE",
            "tape 0 3 min = SIZE; item 0 0 0 = NOTHING");
        Script.holds("tape: or holds nothing (sort -1: n does not matter)",
            "put 0 2 7; tape 0 -1 0 = 1; items 0 =; item 0 0 0 = NOTHING",
            "put 0 2 7; tape 0 -1 61 = 1; item 0 0 0 = NOTHING", "put 0 2 7; tape 0 -1 -1 = 1; item 0 0 0 = NOTHING",
            "put 0 2 7; tape 0 -1 min = 1; item 0 0 0 = NOTHING",
            "put 0 2 7; tape 0 -1 max = 1; tape 0 2 2; items 0 = 0 0", "tape 0 -1 5 = 1");
        Script.holds("TAPES, each by itself",
            "put 0 2 7; put 5 2 8; tape 0 2 1; items 5 = 8; items 0 = 0; tape 5 -1 0; items 0 = 0");
    }

    private static void tapeRefused() {
        Script.holds("tape: NONE, tape",
            "tape 5 0 1 = 1; tape 6 0 1 = NONE; tape -1 0 1 = NONE; tape min 0 1 = NONE; tape max 0 1 = NONE; "
                + "tape 6 -1 0 = NONE; tape -1 -1 0 = NONE");
        Script.holds("tape: BAD, sort",
            "tape 0 4 1 = 1; tape 0 5 1 = BAD; tape 0 -2 1 = BAD; tape 0 min 1 = BAD; tape 0 max 1 = BAD; "
                + "items 0 = 0");
        Script.holds("tape: NONE ahead of BAD", "tape 6 5 1 = NONE; tape 6 0 61 = NONE; tape -1 -2 61 = NONE");
        Script.holds("tape: NONE ahead of SIZE", "tape 6 0 -1 = NONE; tape -1 0 min = NONE");
        Script.holds("tape: BAD ahead of SIZE", "tape 0 5 -1 = BAD; tape 0 -2 min = BAD; tape 0 0 -1 = SIZE");
    }

    private static void item() {
        Script.holds("item: Item i of a TAPE becomes v: 1",
            "tape 0 3 3; item 0 0 5 = 1; item 0 2 -7 = 1; items 0 = 5 0 -7; item 0 2 8 = 1; items 0 = 5 0 8; "
                + "item 0 1 lmax = 1; read 0 1 = lmax; item 0 1 lmin = 1; read 0 1 = lmin");
        Script.holds("read: Item i of a TAPE", "put 5 3 4 5 6; read 5 0 = 4; read 5 1 = 5; read 5 2 = 6");
    }

    private static void lowestBits() {
        Script.holds("its lowest bits: bytes",
            "put 0 0 127 128 255 256 -128 -129 -1 300; items 0 = 127 -128 -1 0 -128 127 -1 44",
            "put 0 0 4294967296 4294967297 lmin lmax; items 0 = 0 1 0 -1");
        Script.holds("its lowest bits: shorts",
            "put 0 1 32767 32768 65535 65536 -32768 -32769 -1 128; items 0 = 32767 -32768 -1 0 -32768 32767 -1 128",
            "put 0 1 4294967296 lmin lmax; items 0 = 0 0 -1");
        Script.holds("its lowest bits: ints",
            "put 0 2 max 2147483648 4294967295 4294967296 min -2147483649 -1 32768; "
                + "items 0 = max min -1 0 min max -1 32768",
            "put 0 2 lmin lmax; items 0 = 0 -1");
        Script.holds("its lowest bits: longs",
            "put 0 3 lmin lmax 4294967296 -1 0; items 0 = lmin lmax 4294967296 -1 0");
        Script.holds("booleans: whether v is not 0",
            "put 0 4 0 1 2 -1 256 4294967296 lmin lmax; items 0 = 0 1 1 1 1 1 1 1; item 0 1 0; read 0 1 = 0");
    }

    private static void itemRefused() {
        Script.holds("item: NONE",
            "tape 5 0 1; item 5 0 1 = 1; item 6 0 1 = NONE; item -1 0 1 = NONE; item min 0 1 = NONE; "
                + "item max 0 1 = NONE");
        Script.holds("item: NOTHING",
            "item 0 0 1 = NOTHING; tape 0 0 1; item 0 0 1 = 1; tape 0 -1 0; item 0 0 1 = NOTHING");
        Script.holds("item: PLACE",
            "tape 0 0 3; item 0 2 1 = 1; item 0 3 1 = PLACE; item 0 -1 1 = PLACE; item 0 min 1 = PLACE; "
                + "item 0 max 1 = PLACE; item 0 60 1 = PLACE; items 0 = 0 0 1");
        Script.holds("item: NONE ahead of PLACE", "item 6 -1 1 = NONE; item -1 60 1 = NONE");
        Script.holds("item: NOTHING ahead of PLACE", "item 0 -1 1 = NOTHING; item 5 60 1 = NOTHING");
    }

    private static void read() {
        Script.holds("read: NO, no such TAPE",
            "tape 5 0 1; read 5 0 = 0; read 6 0 = NO; read -1 0 = NO; read min 0 = NO; read max 0 = NO");
        Script.holds("read: NO, nothing there",
            "read 0 0 = NO; read 5 0 = NO; tape 5 0 1; read 5 0 = 0; tape 5 -1 0; read 5 0 = NO",
            "tape 0 0 0; read 0 0 = NO");
        Script.holds("read: NO, no such place",
            "tape 0 0 3; read 0 2 = 0; read 0 3 = NO; read 0 -1 = NO; read 0 min = NO; read 0 max = NO",
            "tape 0 0 60; tape 0 0 3; read 0 3 = NO; read 0 59 = NO");
    }

    private static void shift() {
        String two = "put 0 2 1 2 3 4 5; put 1 2 9 9 9; ";
        Script.holds("shift: n items of a TAPE from i on come to another one from j on: n",
            two + "shift 0 1 1 0 3 = 3; items 1 = 2 3 4; items 0 = 1 2 3 4 5",
            two + "shift 0 4 1 2 1 = 1; items 1 = 9 9 5",
            two + "shift 1 0 0 2 3 = 3; items 0 = 1 2 9 9 9; items 1 = 9 9 9",
            two + "shift 0 0 1 1 2 = 2; items 1 = 9 1 2");
        Script.holds("shift: n is 0",
            two + "shift 0 0 1 0 0 = 0; items 1 = 9 9 9", two + "shift 0 5 1 3 0 = 0; items 1 = 9 9 9",
            "tape 0 2 0; tape 1 2 0; shift 0 0 1 0 0 = 0");
        for (int sort = 0; sort < 5; sort++) {
            Script.holds("shift: of each sort",
                "put 2 " + sort + " 1 0 1; put 3 " + sort + " 0 0 0; shift 2 0 3 0 3 = 3; items 3 = 1 0 1");
        }
        Script.holds("shift: as long as may be",
            "tape 0 3 60; tape 1 3 60; item 0 59 7; item 0 0 8; shift 0 0 1 0 60 = 60; read 1 59 = 7; "
                + "read 1 0 = 8; shift 0 0 1 0 61 = PLACE");
    }

    private static void shiftOfTheSame() {
        Script.holds("shift: (or the same), as they all were before",
            "put 0 2 1 2 3 4 5; shift 0 0 0 1 4 = 4; items 0 = 1 1 2 3 4",
            "put 0 2 1 2 3 4 5; shift 0 1 0 0 4 = 4; items 0 = 2 3 4 5 5",
            "put 0 2 1 2 3 4 5; shift 0 0 0 2 3 = 3; items 0 = 1 2 1 2 3",
            "put 0 2 1 2 3 4 5; shift 0 2 0 0 3 = 3; items 0 = 3 4 5 4 5",
            "put 0 2 1 2 3; shift 0 0 0 0 3 = 3; items 0 = 1 2 3",
            "put 0 2 1 2 3 4; shift 0 0 0 2 2 = 2; items 0 = 1 2 1 2");
    }

    private static void shiftRefused() {
        String rows = "put 0 2 1 2 3; put 1 2 4 5; put 2 3 6 7; ";
        Script.holds("shift: NONE, tapes",
            rows + "shift 6 0 0 0 1 = NONE; shift -1 0 0 0 1 = NONE; shift 0 0 6 0 1 = NONE; "
                + "shift 0 0 -1 0 1 = NONE; shift min 0 0 0 1 = NONE; shift max 0 0 0 1 = NONE; "
                + "shift 0 0 min 0 1 = NONE; shift 0 0 max 0 1 = NONE; items 0 = 1 2 3");
        Script.holds("shift: NOTHING",
            rows + "shift 3 0 0 0 1 = NOTHING; shift 0 0 3 0 1 = NOTHING; shift 3 0 5 0 0 = NOTHING; "
                + "items 0 = 1 2 3; items 3 =");
        Script.holds("shift: CAST, of unlike sorts",
            rows + "shift 0 0 2 0 1 = CAST; shift 2 0 0 0 1 = CAST; shift 0 0 2 0 0 = CAST; items 0 = 1 2 3; "
                + "items 2 = 6 7");
        Script.holds("shift: NONE ahead of NOTHING",
            rows + "shift 3 0 6 0 1 = NONE; shift -1 0 3 0 1 = NONE; shift 6 0 3 0 1 = NONE");
        Script.holds("shift: NONE ahead of PLACE",
            rows + "shift 6 -1 0 0 1 = NONE; shift 0 0 6 9 9 = NONE; shift 6 0 0 0 -1 = NONE");
        Script.holds("shift: NOTHING ahead of CAST",
            "tape 1 3 1; shift 0 0 1 0 1 = NOTHING; shift 1 0 0 0 1 = NOTHING");
        Script.holds("shift: NOTHING ahead of PLACE",
            rows + "shift 3 -1 0 0 1 = NOTHING; shift 0 9 3 9 9 = NOTHING; shift 0 0 3 0 -1 = NOTHING");
        Script.holds("shift: CAST ahead of PLACE",
            rows + "shift 0 -1 2 0 1 = CAST; shift 0 9 2 9 9 = CAST; shift 2 0 0 0 -1 = CAST; "
                + "shift 0 0 2 0 max = CAST");
    }

    private static void shiftPlaces() {
        String rows = "put 0 2 1 2 3; put 1 2 4 5; ";
        Script.holds("shift: PLACE, n is below 0",
            rows + "shift 0 0 1 0 -1 = PLACE; shift 0 0 1 0 min = PLACE; shift 0 1 1 1 -1 = PLACE; "
                + "shift 0 0 0 0 -1 = PLACE");
        Script.holds("shift: PLACE, i is below 0",
            rows + "shift 0 -1 1 0 1 = PLACE; shift 0 min 1 0 1 = PLACE; shift 0 -1 1 0 0 = PLACE; "
                + "shift 0 -1 0 0 1 = PLACE");
        Script.holds("shift: PLACE, j is below 0",
            rows + "shift 0 0 1 -1 1 = PLACE; shift 0 0 1 min 1 = PLACE; shift 0 0 1 -1 0 = PLACE; "
                + "shift 0 0 0 -1 1 = PLACE");
        Script.holds("shift: PLACE, beyond the end of the one",
            rows + "shift 1 0 0 0 2 = 2; shift 1 0 0 0 3 = PLACE; shift 1 1 0 0 2 = PLACE; "
                + "shift 1 2 0 0 1 = PLACE; shift 1 2 0 0 0 = 0; shift 1 3 0 0 0 = PLACE; "
                + "shift 1 max 0 0 1 = PLACE; shift 1 max 0 0 0 = PLACE; items 0 = 4 5 3");
        Script.holds("shift: PLACE, beyond the end of the other",
            rows + "shift 0 0 1 0 2 = 2; shift 0 0 1 0 3 = PLACE; shift 0 0 1 1 2 = PLACE; "
                + "shift 0 0 1 2 1 = PLACE; shift 0 0 1 2 0 = 0; shift 0 0 1 3 0 = PLACE; "
                + "shift 0 0 1 max 1 = PLACE; shift 0 0 1 max 0 = PLACE; items 1 = 1 2");
        Script.holds("shift: PLACE, though the sum wraps",
            rows + "shift 0 1 1 0 max = PLACE; shift 0 0 1 1 max = PLACE; shift 0 max 1 max max = PLACE; "
                + "shift 0 max 1 0 max = PLACE; shift 0 max 1 0 min = PLACE; items 0 = 1 2 3; items 1 = 4 5");
        Script.holds("shift: PLACE, no item comes of those that there are",
            rows + "shift 0 1 1 0 3 = PLACE; items 1 = 4 5");
    }
}
