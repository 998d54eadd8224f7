/** THE TEXT, A TREE and the FAULT; promises 4 and 5: each sentence that names an edge, by itself. */
public final class TreeEdgesTest {
    private static final String SUB = "1?(1!,1!,1!,1!,1!)";
    private static final String FIVE_SUBS = SUB + "," + SUB + "," + SUB + "," + SUB + "," + SUB;
    /** As long as a TEXT may be, and of as many TASKS as there may be. */
    private static final String HUNDRED = "1?(" + FIVE_SUBS + ",1)";
    private static final String SIX = "1(1,1,1,1,1,1)";
    private static final String THIRTY_ONE = "1(" + SIX + "," + SIX + "," + SIX + "," + SIX + ",1,1)";
    private static final String THIRTY_THREE = "1(" + SIX + "," + SIX + "," + SIX + "," + SIX + ",1(1,1,1))";

    public static void main(String[] args) {
        signs();
        textIsEmptyThen();
        work();
        marks();
        members();
        sixAtMost();
        noBlanks();
        withinFourOthers();
        firstFault();
        endsTooEarly();
        numbered();
        trees();
        whichArm();
        tooManyTasks();
        Check.end("TreeEdgesTest");
    }

    private static void signs() {
        Script.holds("feed: a sign (0 .. 127)",
            "feed 0 = 1", "feed 127 = 1", "feed -1 = BAD; count 5 = 0", "feed 128 = BAD; count 5 = 0",
            "feed min = BAD; count 5 = 0", "feed max = BAD; count 5 = 0", "feed 255 = BAD", "feed 305 = BAD");
        Script.holds("feed: comes behind THE TEXT's", "feed 50 = 1; feed 33 = 2; tree 0 = 0; of 0 1 = 2; of 0 6 = 1");
        Script.holds("feed: how many it has", "feed 49 = 1; feed 49 = 2; feed -1; feed 49 = 3; count 5 = 3");
        Script.holds("THE TEXT: bytes, 100 at most; FULL",
            "times 99 feed 49; feed 49 = 100; feed 49 = FULL; count 5 = 100",
            "times 100 feed 0; feed 0 = FULL; feed 127 = FULL; count 5 = 100");
        Script.holds("feed: BAD ahead of FULL",
            "times 100 feed 49; feed -1 = BAD; feed 128 = BAD; feed min = BAD; feed max = BAD");
        Check.due("as long as may be", HUNDRED.length(), 100);
        Script.holds("THE TEXT: the last of 100 is read, the one that was refused isn't",
            "type " + HUNDRED + " = 100; feed 33 = FULL; tree 0 = 0; count 0 = 32; of 31 6 = 0; of 30 6 = 1");
    }

    private static void textIsEmptyThen() {
        Script.holds("tree: THE TEXT is empty then", "grow 0 1(1) = 0; count 5 = 0; tree 0 = -10; feed 49 = 1");
        Script.holds("tree: by a FAULT, too",
            "grow 0 1(1 = -13; count 5 = 0; tree 0 = -10; grow 0 1 = 0; count 0 = 1", "tree 0 = -10; count 5 = 0",
            "times 100 feed 49; tree 0 = -11; count 5 = 0; times 100 feed 50 = 100");
        Script.holds("tree: FULL, THE TEXT is empty then, too",
            "grow 0 " + THIRTY_ONE + " = 0; grow 0 1(1) = FULL; count 5 = 0; tree 0 = -10; grow 0 1 = 31");
        Script.holds("tree: NONE, THE TEXT stays",
            "type 1(2; tree 2 = NONE; count 5 = 3; tree -1 = NONE; count 5 = 3; type ,3); tree 1 = 0; each 1 = 1 2 3");
    }

    private static void work() {
        Script.holds("WORK (a digit 1 .. 9)",
            "grow 0 1 = 0; of 0 1 = 1", "grow 0 9 = 0; of 0 1 = 9", "grow 0 1(9,1) = 0; each 1 = 1 9 1",
            "feed 48; tree 0 = -10", "feed 47; tree 0 = -10", "feed 58; tree 0 = -10", "feed 0; tree 0 = -10",
            "feed 127; tree 0 = -10", "grow 0 a = -10", "grow 0 1(0) = -12", "grow 0 1(:) = -12",
            "grow 0 1(1,0) = -14", "grow 0 1(1,/) = -14");
        Script.holds("WORK is one digit", "grow 0 11 = -11", "grow 0 1(12) = -13", "grow 0 1(1,10) = -15");
        Script.holds("a TREE begins with WORK",
            "grow 0 ! = -10", "grow 0 ? = -10", "grow 0 ( = -10", "grow 0 ) = -10", "grow 0 , = -10",
            "grow 0 (1) = -10");
    }

    private static void marks() {
        Script.holds("then, perhaps, ! or ?",
            "grow 0 1 = 0; of 0 6 = 0", "grow 0 1! = 0; of 0 6 = 1", "grow 0 1? = 0; of 0 6 = 2",
            "grow 0 1(1!,1?,1) = 0; each 6 = 0 1 2 0", "grow 0 1!(1) = 0; each 6 = 1 0",
            "grow 0 1?(1) = 0; each 6 = 2 0", "feed 49; feed 32; tree 0 = -11", "feed 49; feed 34; tree 0 = -11",
            "feed 49; feed 62; tree 0 = -11", "feed 49; feed 64; tree 0 = -11");
        Script.holds("then, perhaps, ! or ?: one of them",
            "grow 0 1!! = -12", "grow 0 1!? = -12", "grow 0 1?! = -12", "grow 0 1?? = -12", "grow 0 1(1!!) = -14");
        Script.holds("then, perhaps, ! or ?: right behind the WORK",
            "grow 0 1(! = -12", "grow 0 1(1)! = -14", "grow 0 1(1)? = -14", "grow 0 1(1,! = -14",
            "grow 0 1(1(1)!) = -16");
        Script.holds("a digit behind a mark is none", "grow 0 1!1 = -12", "grow 0 1(1?1) = -14");
    }

    private static void members() {
        Script.holds("then, perhaps, ( T, or T,T and so on",
            "grow 0 1(2) = 0; count 0 = 2", "grow 0 1(2,3) = 0; count 0 = 3", "grow 0 1(2,3,4,5,6) = 0; of 0 5 = 5");
        Script.holds("( T: one at least", "grow 0 1() = -12", "grow 0 1!() = -13", "grow 0 1(1()) = -14");
        Script.holds("T,T: one behind each ,", "grow 0 1(1,) = -14", "grow 0 1(1,,1) = -14", "grow 0 1(,1) = -12");
        Script.holds("and ): as many as (", "grow 0 1) = -11", "grow 0 1(1)) = -14", "grow 0 1!) = -12");
        Script.holds("one ( of a TASK at most", "grow 0 1(1)(1) = -14", "grow 0 1(1(1)(1)) = -16");
        Script.holds("one TREE of a TEXT",
            "grow 0 1,1 = -11", "grow 0 1(1),1 = -14", "grow 0 1(1)1 = -14", "grow 0 1!,1 = -12");
        Script.holds("other signs are none",
            "grow 0 1[1] = -11", "grow 0 1(1.1) = -13", "feed 49; feed 59; tree 0 = -11",
            "feed 49; feed 0; tree 0 = -11", "feed 49; feed 127; tree 0 = -11", "feed 49; feed 39; tree 0 = -11",
            "feed 49; feed 42; tree 0 = -11", "feed 49; feed 43; tree 0 = -11", "feed 49; feed 45; tree 0 = -11");
    }

    private static void sixAtMost() {
        Script.holds("6 at most",
            "grow 0 " + SIX + " = 0; of 0 5 = 6", "grow 0 1(1,1,1,1,1,1,1) = -23", "grow 0 1(1,1,1,1,1,1, = -23");
        Script.holds("6 at most, at each depth",
            "grow 0 1(" + SIX + ") = 0; of 1 5 = 6", "grow 0 1(1(1(1(1,1,1,1,1,1)))) = 0; of 3 5 = 6",
            "grow 0 1(1(1(1(1,1,1,1,1,1,1)))) = -29", "grow 0 1(1(1,1,1,1,1,1,1)) = -25");
        Script.holds("6 at most, in each by itself",
            "grow 0 1(" + SIX + "," + SIX + ") = 0; each 5 = 2 6 0 0 0 0 0 0 6 0 0 0 0 0 0",
            "grow 0 1(1(1,1,1,1,1,1),1,1,1,1,1) = 0; of 0 5 = 6", "grow 0 1(1(1,1,1,1,1,1),1,1,1,1,1,1) = -36",
            "grow 0 1(1(1),1(1),1(1),1(1),1(1),1(1)) = 0; of 0 5 = 6",
            "grow 0 1(1(1),1(1),1(1),1(1),1(1),1(1),1) = -41");
    }

    private static void noBlanks() {
        for (int blank : new int[] {32, 9, 10, 13}) {
            Script.holds("No blanks",
                "feed " + blank + "; feed 49; tree 0 = -10", "feed 49; feed " + blank + "; tree 0 = -11",
                "type 1!; feed " + blank + "; tree 0 = -12", "type 1(; feed " + blank + "; type 1); tree 0 = -12",
                "type 1(1; feed " + blank + "; type ); tree 0 = -13",
                "type 1(1,; feed " + blank + "; type 1); tree 0 = -14",
                "type 1(1); feed " + blank + "; tree 0 = -14");
        }
    }

    private static void withinFourOthers() {
        Script.holds("A ( within 4 others is none",
            "grow 0 1(1(1(1(1)))) = 0; each 9 = 0 1 2 3 4", "grow 0 1(1(1(1(1( = -19",
            "grow 0 1(1(1(1(1(1))))) = -19", "grow 0 1(1(1(1(1!( = -20", "grow 0 1(1(1(1(1?(1))))) = -20",
            "grow 0 1(1(1(1(1,1( = -21");
        Script.holds("A ( within 4 others: those that are closed don't count",
            "grow 0 1(1(1(1(1),1(1)),1(1(1)))) = 0; each 9 = 0 1 2 3 4 3 4 2 3 4",
            "grow 0 1(1(1),1(1),1(1),1(1),1(1)) = 0; count 0 = 11", "grow 0 1(1(1(1(1),1(1( = -24");
        Script.holds("deepest TASKS have marks and are several",
            "grow 0 1(1(1(1(1!,2?,3)))) = 0; each 6 = 0 0 0 0 1 2 0");
    }

    private static void firstFault() {
        Script.holds("The FAULT: the place of the first byte with which none begins so",
            "grow 0 1xx = -11", "grow 0 x = -10", "grow 0 1(1x(x = -13", "grow 0 1)0) = -11", "grow 0 1(1,,) = -14");
        Script.holds("The FAULT at the last place",
            "type " + HUNDRED.substring(0, 99) + "; feed 120; tree 0 = -109",
            "type " + HUNDRED.substring(0, 99) + "; feed 44; tree 0 = -109");
        Script.holds("a FAULT: no TASKS, nothing in the ROW",
            "grow 0 1(1,1 = -15; count 0 = 0; row 0 =; told 3 = 1",
            "grow 0 3 = 0; grow 0 1(1,1 = -15; count 0 = 1; row 0 = 0; each 5 = 0");
    }

    private static void endsTooEarly() {
        Script.holds("the end of THE TEXT, if it ends too early",
            "tree 0 = -10", "grow 0 1( = -12", "grow 0 1(1 = -13", "grow 0 1(1, = -14", "grow 0 1(1! = -14",
            "grow 0 1(1(1) = -16", "grow 0 1!( = -13", "grow 0 1(1(1(1(1 = -19",
            "grow 0 " + HUNDRED.substring(0, 99) + " = -109");
        Script.holds("ends too early, at 100",
            "type 1?(" + FIVE_SUBS + "; type ,1! = 100; tree 0 = -110",
            "type 1(" + FIVE_SUBS + "; type ,1!( = 100; tree 0 = -110");
    }

    private static void numbered() {
        Script.holds("TASKS of a TREE are numbered as they begin in THE TEXT",
            "grow 0 1(2(3,4),5(6),7) = 0; each 1 = 1 2 3 4 5 6 7; each 4 = -5 0 1 1 0 4 0",
            "grow 0 1(2(3(4(5),6),7),8) = 0; each 1 = 1 2 3 4 5 6 7 8; each 4 = -5 0 1 2 3 2 1 0");
        Script.holds("TASKS, as they come",
            "grow 0 1(2) = 0; grow 0 3(4) = 2; each 1 = 1 2 3 4; each 4 = -5 0 -5 2",
            "grow 0 9 = 0; pass 60; grow 1 8 = 1; cancel 1; grow 0 7 = 2; each 1 = 9 8 7");
    }

    private static void trees() {
        Script.holds("tree: its ROOT comes to the near end of the ROW",
            "grow 0 1 = 0; grow 0 2 = 1; row 0 = 0 1; row 1 =",
            "grow 1 1(1) = 0; grow 1 2(1) = 2; grow 1 3 = 4; row 1 = 0 2 4; row 0 =",
            "grow 0 9 = 0; grow 0 8; grow 0 7; pass 1; grow 0 6; row 0 = 1 3; arm 1 1 = 0; arm 0 1 = 2; arm 0 11 = 3");
        Script.holds("tree: only the ROOT", "grow 0 1(2,3) = 0; row 0 = 0; each 11 = 0 -5 -5; each 0 = 0 0 0");
        Script.holds("tree: what a TASK is at first",
            "grow 0 7?(8!) = 0; each 0 = 0 0; each 2 = 7 8; each 3 = 0 0; each 10 = -5 -5; told 6 = 0; "
                + "told 0 = 0; causes = -5 -5 -5 -5");
    }

    private static void whichArm() {
        Script.holds("tree: NONE, arm",
            "type 1; tree -1 = NONE; tree 2 = NONE; tree min = NONE; tree max = NONE; tree 1 = 0",
            "arms 4; type 1; tree 4 = NONE; tree 3 = 0; row 3 = 0", "arms 1; type 1; tree 1 = NONE; tree 0 = 0");
        Script.holds("tree: NONE ahead of the FAULT",
            "type x; tree 2 = NONE; count 5 = 1; tree 1 = -10", "tree -1 = NONE");
        Script.holds("tree: NONE ahead of FULL",
            "grow 0 " + HUNDRED + "; type 1; tree 2 = NONE; count 5 = 1; tree 1 = FULL");
    }

    private static void tooManyTasks() {
        Script.holds("TASKS 0 .. 31",
            "grow 0 " + HUNDRED + " = 0; count 0 = 32; of 31 1 = 1; of 32 1 = NONE",
            "grow 0 " + THIRTY_ONE + " = 0; count 0 = 31; grow 0 7! = 31; of 31 1 = 7; row 0 = 0 31");
        Script.holds("tree: FULL, there would be more than 32 TASKS",
            "grow 0 " + THIRTY_THREE + " = FULL; count 0 = 0; row 0 =",
            "grow 0 " + THIRTY_ONE + "; grow 0 1(1) = FULL; count 0 = 31; row 0 = 0",
            "grow 0 " + HUNDRED + "; grow 1 1 = FULL; count 0 = 32; row 1 =; grow 1 1 = FULL");
        Script.holds("tree: FULL behind the FAULT",
            "grow 0 " + HUNDRED + "; grow 1 1( = -12; grow 1 x = -10; tree 1 = -10",
            "grow 0 " + THIRTY_THREE + ") = " + (-10 - THIRTY_THREE.length()),
            "grow 0 " + THIRTY_THREE.substring(0, THIRTY_THREE.length() - 1) + " = " + (-9 - THIRTY_THREE.length()));
        Script.holds("of 32 TASKS, ENDED ones too",
            "grow 0 " + HUNDRED + "; cancel 0 = 32; count 1 = 32; grow 0 1 = FULL");
    }
}
