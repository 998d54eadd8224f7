/** Promises 23 to 30: judge, image, undo, count, tape, item, read, shift. */
public final class JudgingImageTapesTest {
    public static void main(String[] args) {
        judge();
        judgeWithoutTasks();
        judgeShortRows();
        judgeSigns();
        image();
        imageHoldsWhatIsTold();
        imageHoldsNoMore();
        count();
        tape();
        item();
        itemsLowestBits();
        read();
        shift();
        shiftRefused();
        Check.end("JudgingImageTapesTest");
    }

    private static void row(StealingArms x, int tape, int sort, long... items) {
        x.tape(tape, sort, items.length);
        for (int i = 0; i < items.length; i++) {
            x.item(tape, i, items[i]);
        }
    }

    private static void items(String what, StealingArms x, int tape, long... items) {
        for (int i = 0; i < items.length; i++) {
            Check.due(what + ": item " + i, x.read(tape, i), items[i]);
        }
        Check.due(what + ": no more", x.read(tape, items.length), Check.NO);
    }

    private static StealingArms worths() {
        StealingArms x = Check.with(1, "0:2(1,3)", "0:4!", "0:5");
        x.pass(60); // WORTHS 6, 1, 3, 0, 5
        return x;
    }

    private static void judge() {
        StealingArms x = worths();
        row(x, 0, 0, 6, 1, 3, 0, 5);
        Check.due("as they are", x.judge(0, 0), Check.ABSENT);
        row(x, 5, 0, 9, 9, 6, 1, 3, 0, 5, 9);
        Check.due("from place 2 on", x.judge(5, 2), Check.ABSENT);
        Check.due("from place 0 on", x.judge(5, 0), 0);
        x.item(5, 6, 4);
        Check.due("the last is otherwise", x.judge(5, 2), 4);
        x.item(5, 3, 0);
        Check.due("the first that is", x.judge(5, 2), 1);
        Check.due("judge(6, 0)", x.judge(6, 0), Check.NONE);
        Check.due("judge(-1, 0)", x.judge(-1, 0), Check.NONE);
        for (int sort = 1; sort < 5; sort++) {
            row(x, 1, sort, 6, 1, 3, 0, 5);
            Check.due("of sort " + sort, x.judge(1, 0), Check.CAST);
            Check.due("of sort " + sort + ", no place", x.judge(1, -1), Check.CAST);
        }
    }

    private static void judgeWithoutTasks() {
        StealingArms x = new StealingArms();
        Check.due("nothing, place 0", x.judge(0, 0), Check.ABSENT);
        Check.due("nothing, place -1", x.judge(0, -1), Check.ABSENT);
        Check.due("nothing, place max", x.judge(0, Integer.MAX_VALUE), Check.ABSENT);
        x.tape(0, 0, 3);
        Check.due("a row, place 99", x.judge(0, 99), Check.ABSENT);
        Check.due("a row, place min", x.judge(0, Integer.MIN_VALUE), Check.ABSENT);
        x.tape(0, 2, 3);
        Check.due("another sort", x.judge(0, 0), Check.CAST);
        Check.due("no tape", x.judge(6, 0), Check.NONE);
    }

    private static void judgeShortRows() {
        StealingArms x = worths();
        Check.due("nothing", x.judge(0, 0), 100);
        Check.due("nothing, place -1", x.judge(0, -1), 100);
        Check.due("nothing, place 7", x.judge(0, 7), 100);
        row(x, 0, 0, 6, 1, 3);
        Check.due("three of five", x.judge(0, 0), 103);
        Check.due("place -1", x.judge(0, -1), 100);
        Check.due("place 3, the end", x.judge(0, 3), 100);
        Check.due("place 4", x.judge(0, 4), 100);
        Check.due("place max", x.judge(0, Integer.MAX_VALUE), 100);
        row(x, 0, 0, 0, 6);
        Check.due("one of five", x.judge(0, 1), 101);
        row(x, 0, 0, 6, 2, 3);
        Check.due("otherwise ahead of the end", x.judge(0, 0), 1);
        row(x, 0, 0);
        Check.due("an empty row", x.judge(0, 0), 100);
    }

    private static void judgeSigns() {
        String nines = "9(9(9,9,9),9(9,9,9),9(9,9,9),9(9,9,9))"; // 17 TASKS: 153
        StealingArms x = Check.with(4, "0:" + nines);
        x.pass(60);
        x.pass(60);
        Check.due("its WORTH", x.of(0, 3), 153);
        row(x, 0, 0, 153);
        Check.due("as a byte holds it", x.read(0, 0), 153 - 256);
        Check.due("that is otherwise", x.judge(0, 0), 0);
    }

    private static void image() {
        String was = "grow 0 2(1!,3); grow 1 2; undo = STATE; pass 3; see 0 1; plan 1 2; book 2 2; seed 5; image = 4";
        String later = "; pass 4; grow 0 1(1); cancel 4; arms 4; pass 1; see 1 0; see -1 0; plan 0 0; book 0 0; book 3 1; seed 8";
        Script.alike("All is as THE IMAGE", was + later + "; undo = 4", was);
        Script.alike("All is as THE IMAGE, once more", was + later + "; undo = 4; pass 20; arms 1; undo = 4", was);
        String anew = was + "; cancel 0; grow 1 7; image = 5";
        Script.alike("All is as a later IMAGE", anew + "; pass 60; undo = 5", anew);
        Script.alike("THE IMAGE changes nothing but itself", was + "; pass 2; image", "grow 0 2(1!,3); grow 1 2; pass 3; "
            + "see 0 1; plan 1 2; book 2 2; seed 5; pass 2; image");
        Check.due("of an empty object", new StealingArms().image(), 0);
    }

    private static void imageHoldsWhatIsTold() {
        StealingArms x = Check.with(1, "0:1", "0:2");
        x.see(1, 0);
        x.plan(0, 0);
        x.plan(0, 0);
        x.book(0, 0);
        x.book(1, 1);
        x.image();
        x.see(-1, 0);
        x.plan(-1, 0);
        x.book(-1, 0);
        x.see(0, 0);
        x.plan(1, 0);
        x.book(0, 5);
        x.book(0, 5);
        x.book(0, 5);
        x.undo();
        Check.due("SEEN", x.count(2), 1);
        Check.due("PLAN", x.count(3), 2);
        Check.due("BOOK", x.count(4), 2);
        Check.due("SEEN is as it was", x.seeds(), Integer.MAX_VALUE);
        Check.due("PLAN is as it was", x.ends(0), 0);
        Check.due("BOOK is as it was", x.looked(), 1);
    }

    private static void imageHoldsNoMore() {
        StealingArms x = new StealingArms();
        Check.feed(x, "1(");
        row(x, 0, 2, 7);
        x.image();
        Check.feed(x, "2");
        x.item(0, 0, 8);
        x.tape(1, 0, 4);
        x.undo();
        Check.due("THE TEXT stays", x.count(5), 3);
        Check.due("a tape stays", x.read(0, 0), 8);
        Check.due("another tape stays", x.read(1, 3), 0);
    }

    private static void count() {
        StealingArms x = Check.with(1, "0:1(1!,2)", "0:1");
        x.pass(2);
        x.see(0, 0);
        x.see(0, 0);
        x.plan(0, 0);
        x.book(0, 0);
        x.book(0, 0);
        x.book(0, 0);
        Check.feed(x, "abcde");
        int[] due = {4, 1, 2, 1, 3, 5};
        for (int what = 0; what < 6; what++) {
            Check.due("count(" + what + ")", x.count(what), due[what]);
        }
        x.pass(60);
        Check.due("all ENDED", x.count(1), 4);
        Check.due("count(6)", x.count(6), Check.BAD);
        Check.due("count(-1)", x.count(-1), Check.BAD);
        Check.due("count(min)", x.count(Integer.MIN_VALUE), Check.BAD);
    }

    private static void tape() {
        StealingArms x = new StealingArms();
        for (int sort = 0; sort < 5; sort++) {
            Check.due("tape of sort " + sort, x.tape(sort, sort, sort), 1);
            items("all 0", x, sort, new long[sort]);
        }
        Check.due("60 items", x.tape(5, 3, 60), 1);
        items("60 items", x, 5, new long[60]);
        row(x, 5, 3, 4, 5, 6);
        Check.due("anew", x.tape(5, 3, 4), 1);
        items("all 0 anew", x, 5, 0, 0, 0, 0);
        row(x, 5, 3, 4, 5, 6);
        Check.due("tape(6, 0, 0)", x.tape(6, 0, 0), Check.NONE);
        Check.due("tape(-1, -1, 0)", x.tape(-1, -1, 0), Check.NONE);
        Check.due("tape(5, 5, 0)", x.tape(5, 5, 0), Check.BAD);
        Check.due("tape(5, -2, 0)", x.tape(5, -2, 0), Check.BAD);
        Check.due("tape(5, 0, 61)", x.tape(5, 0, 61), Check.BAD);
        Check.due("tape(5, 5, -1)", x.tape(5, 5, -1), Check.BAD);
        Check.due("tape(5, 0, -1)", x.tape(5, 0, -1), Check.SIZE);
        Check.due("tape(5, 4, min)", x.tape(5, 4, Integer.MIN_VALUE), Check.SIZE);
        items("as it was", x, 5, 4, 5, 6);
        Check.due("tape(5, -1, 99)", x.tape(5, -1, 99), 1);
        Check.due("nothing", x.read(5, 0), Check.NO);
        Check.due("tape(5, -1, -1)", x.tape(5, -1, -1), 1);
        Check.due("still nothing", x.item(5, 0, 0), Check.NOTHING);
        Check.due("an empty row", x.tape(5, 0, 0), 1);
        Check.due("is something", x.item(5, 0, 0), Check.PLACE);
    }

    private static void item() {
        StealingArms x = new StealingArms();
        x.tape(2, 2, 3);
        Check.due("item(2, 0, 4)", x.item(2, 0, 4), 1);
        Check.due("item(2, 2, -4)", x.item(2, 2, -4), 1);
        items("told", x, 2, 4, 0, -4);
        Check.due("item(2, 3, 1)", x.item(2, 3, 1), Check.PLACE);
        Check.due("item(2, -1, 1)", x.item(2, -1, 1), Check.PLACE);
        Check.due("item(2, max, 1)", x.item(2, Integer.MAX_VALUE, 1), Check.PLACE);
        Check.due("item(1, 0, 1)", x.item(1, 0, 1), Check.NOTHING);
        Check.due("item(1, -1, 1)", x.item(1, -1, 1), Check.NOTHING);
        Check.due("item(6, 0, 1)", x.item(6, 0, 1), Check.NONE);
        Check.due("item(-1, 0, 1)", x.item(-1, 0, 1), Check.NONE);
        items("as before", x, 2, 4, 0, -4);
    }

    private static void itemsLowestBits() {
        StealingArms x = new StealingArms();
        row(x, 0, 0, 127, 128, 200, 256, -129, Long.MIN_VALUE, 0x1234567890L);
        items("bytes", x, 0, 127, -128, -56, 0, 127, 0, -112);
        row(x, 0, 1, 32767, 32768, 70000, 65536, -32769, Long.MIN_VALUE);
        items("shorts", x, 0, 32767, -32768, 4464, 0, 32767, 0);
        row(x, 0, 2, Integer.MAX_VALUE, 1L << 31, 9999999999L, 1L << 32, Long.MAX_VALUE);
        items("ints", x, 0, Integer.MAX_VALUE, Integer.MIN_VALUE, 1410065407, 0, -1);
        row(x, 0, 3, Long.MAX_VALUE, Long.MIN_VALUE, -1, 9999999999L);
        items("longs", x, 0, Long.MAX_VALUE, Long.MIN_VALUE, -1, 9999999999L);
        row(x, 0, 4, 0, 1, 2, -1, 256, 1L << 32, Long.MIN_VALUE);
        items("booleans", x, 0, 0, 1, 1, 1, 1, 1, 1);
    }

    private static void read() {
        StealingArms x = new StealingArms();
        row(x, 3, 0, 1, 2);
        Check.due("read(3, 1)", x.read(3, 1), 2);
        Check.due("read(3, 2)", x.read(3, 2), Check.NO);
        Check.due("read(3, -1)", x.read(3, -1), Check.NO);
        Check.due("read(2, 0)", x.read(2, 0), Check.NO);
        Check.due("read(6, 0)", x.read(6, 0), Check.NO);
        Check.due("read(-1, 0)", x.read(-1, 0), Check.NO);
        Check.due("read(3, max)", x.read(3, Integer.MAX_VALUE), Check.NO);
    }

    private static void shift() {
        StealingArms x = new StealingArms();
        row(x, 0, 2, 1, 2, 3, 4, 5);
        row(x, 1, 2, 0, 0, 0);
        Check.due("to another", x.shift(0, 1, 1, 0, 3), 3);
        items("there", x, 1, 2, 3, 4);
        items("here", x, 0, 1, 2, 3, 4, 5);
        Check.due("up in the same", x.shift(0, 0, 0, 1, 4), 4);
        items("up", x, 0, 1, 1, 2, 3, 4);
        Check.due("down in the same", x.shift(0, 2, 0, 0, 3), 3);
        items("down", x, 0, 2, 3, 4, 3, 4);
        Check.due("none", x.shift(0, 0, 1, 0, 0), 0);
        Check.due("none at the ends", x.shift(0, 5, 1, 3, 0), 0);
        Check.due("all", x.shift(1, 0, 1, 0, 3), 3);
        items("as before", x, 1, 2, 3, 4);
    }

    private static void shiftRefused() {
        StealingArms x = new StealingArms();
        row(x, 0, 2, 1, 2, 3);
        row(x, 1, 2, 4, 5);
        row(x, 2, 3, 6, 7);
        Check.due("no tape", x.shift(6, 0, 0, 0, 0), Check.NONE);
        Check.due("no other", x.shift(0, 0, -1, 0, 0), Check.NONE);
        Check.due("no tape ahead of nothing", x.shift(3, 0, 6, 0, 0), Check.NONE);
        Check.due("nothing", x.shift(3, 0, 0, 0, 0), Check.NOTHING);
        Check.due("nothing there", x.shift(0, 0, 3, 0, 0), Check.NOTHING);
        Check.due("nothing ahead of places", x.shift(0, -1, 3, -1, -1), Check.NOTHING);
        Check.due("another sort", x.shift(0, 0, 2, 0, 1), Check.CAST);
        Check.due("another sort ahead of places", x.shift(0, 9, 2, 9, 9), Check.CAST);
        int[][] places = {{0, 0, -1}, {-1, 0, 0}, {0, -1, 0}, {4, 0, 0}, {0, 3, 0}, {1, 0, 3}, {0, 1, 2},
            {Integer.MAX_VALUE, 0, 1}, {0, Integer.MAX_VALUE, 1}, {0, 0, Integer.MAX_VALUE}, {1, 1, Integer.MAX_VALUE},
            {Integer.MAX_VALUE, Integer.MAX_VALUE, Integer.MAX_VALUE}, {0, 0, Integer.MIN_VALUE}};
        for (int[] each : places) {
            Check.due("no such place: " + each[0] + " " + each[1] + " " + each[2],
                x.shift(0, each[0], 1, each[1], each[2]), Check.PLACE);
        }
        items("as before", x, 0, 1, 2, 3);
        items("as before", x, 1, 4, 5);
        items("as before", x, 2, 6, 7);
    }
}
