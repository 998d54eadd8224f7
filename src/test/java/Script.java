import java.util.ArrayList;
import java.util.List;
import java.util.Map;

/**
 * Runs of calls told as texts, on new objects: "arms 1 = 2; grow 0 2(1,3) = 0; pass 4; each 0 = 2 0 1".
 * What stands behind a '=' is due; what doesn't, is only called. Every answer is the Model's too.
 *
 * Beside the calls of the face there are: "times n call"; "type text" (feeds its signs); "grow arm text" (feeds them,
 * and tree arm); "each what" (of(task, what) of all TASKS); "row arm" (its TASKS, the far end first); "entries" (THE
 * TRACE, as ROUND ARM what TASK); "put tape sort items.."; "items tape".
 */
final class Script {
    private static final Map<String, Long> NAMES = Map.ofEntries(Map.entry("NONE", -1L), Map.entry("BAD", -2L),
        Map.entry("STATE", -3L), Map.entry("FULL", -4L), Map.entry("NOTHING", -11L), Map.entry("CAST", -12L),
        Map.entry("PLACE", -13L), Map.entry("SIZE", -14L), Map.entry("NO", Long.MIN_VALUE),
        Map.entry("min", (long) Integer.MIN_VALUE), Map.entry("max", (long) Integer.MAX_VALUE),
        Map.entry("lmin", Long.MIN_VALUE), Map.entry("lmax", Long.MAX_VALUE));

    /** What shows all of an object, hidden rows by what comes of them; each is gone through by a new object. */
    private static final String[] LOOKS = {
        "each 0; each 1; each 2; each 3; each 4; each 5",
        "each 6; each 7; each 8; each 9; each 10; each 11",
        "causes; row 0; row 1; row 2; row 3",
        "arms 4; arm 0 1; arm 0 2; arm 0 3; arm 1 1; arm 1 2; arm 1 3; arm 2 1; arm 2 2; arm 2 3; arm 3 2; arm 3 3",
        "entries; told 0; told 1; told 2; told 3; told 4; told 5; told 6",
        "count 0; count 1; count 2; count 3; count 4; count 5; seeds; ends 0; ends 1; looked; mean 0; mean 1",
        "odds 3 0; odds 3 1; odds 9 0; odds 9 1; on 2 0; on 5 1; on 9 2; on 60 3; till 1; till 2; till 3; till 4",
        "items 0; items 1; items 2; items 3; items 4; items 5; judge 0 0; judge 1 0; judge 2 0; judge 5 0",
        "item 0 0 -1; item 1 0 -1; item 2 0 70000; item 3 0 lmax; item 4 0 5; item 5 0 9; "
            + "items 0; items 1; items 2; items 3; items 4; items 5",
        "tree 0; count 0; each 0; each 1; each 4; each 6; row 0",
        "type 3); tree 0; count 0; each 1; each 4; row 0",
        "undo; each 0; each 2; each 3; told 0; told 1; told 2; told 6; count 2; count 3; count 4; looked; seeds; ends 0",
        "undo; entries; row 0; row 1; arm 0 2; arm 1 3; causes",
        "plan 0 0; ends 0; ends 1; plan 0 0; ends 0; ends 1; see 0 0; seeds; book 0 0; looked",
        "pass 1; looked; seeds; ends 0; ends 1; each 0; pass 3; looked; seeds; ends 0; each 0; told 1; entries",
        "pass 60; each 0; each 3; each 2; causes; told 0; told 1; mean 0; mean 1"};

    private final StealingArms real = new StealingArms();
    private final Model model = new Model();
    private final String name;
    private int calls = 0;

    private Script(String name) {
        this.name = name;
    }

    /** What a sentence says, shown by runs. */
    static void holds(String sentence, String... runs) {
        for (String run : runs) {
            new Script(sentence + " | " + run).go(run);
        }
    }

    /** A call behind others, its answer, and that nothing is another by it than if it had not been called. */
    static void changesNothing(String sentence, String before, String call) {
        alike(sentence, before + "; " + call, before);
    }

    /** That all is alike by one run and by another. */
    static void alike(String sentence, String one, String other) {
        for (String look : LOOKS) {
            Script first = new Script(sentence + " | " + one + "; " + look);
            Script second = new Script(sentence + " | " + other + "; " + look);
            first.go(one);
            second.go(other);
            Check.same(first.name, first.go(look).toString(), second.go(look).toString());
        }
    }

    private List<String> go(String run) {
        List<String> answers = new ArrayList<>();
        for (String each : run.split(";")) {
            if (each.isBlank()) {
                continue;
            }
            String[] sides = each.trim().split(" =", 2);
            String got = answer(sides[0].trim().split(" +"), 0);
            answers.add(got);
            if (sides.length > 1) {
                Check.same(name + " | " + sides[0], got, numbers(sides[1].trim()));
            }
        }
        Check.due("calls of " + name + ": " + calls, calls <= Calls.MOST ? 1 : 0, 1);
        return answers;
    }

    private static String numbers(String due) {
        StringBuilder all = new StringBuilder();
        for (String each : due.isEmpty() ? new String[0] : due.split(" +")) {
            boolean ends = each.endsWith(",");
            String word = ends ? each.substring(0, each.length() - 1) : each;
            all.append(all.length() == 0 ? "" : " ").append(number(word)).append(ends ? "," : "");
        }
        return all.toString();
    }

    private static long number(String word) {
        Long named = NAMES.get(word);
        return named != null ? named : Long.parseLong(word);
    }

    private String answer(String[] words, int from) {
        switch (words[from]) {
            case "times":
                String last = "";
                for (int k = 0; k < number(words[from + 1]); k++) {
                    last = answer(words, from + 2);
                }
                return last;
            case "type": return type(words[from + 1]);
            case "grow":
                type(words[from + 2]);
                return "" + call("tree", number(words[from + 1]));
            case "each": return each(number(words[from + 1]));
            case "causes": return causes();
            case "row": return row(number(words[from + 1]));
            case "entries": return entries();
            case "put": return put(words, from + 1);
            case "items": return items(number(words[from + 1]));
            default:
                long[] given = new long[words.length - from - 1];
                for (int k = 0; k < given.length; k++) {
                    given[k] = number(words[from + 1 + k]);
                }
                return "" + call(words[from], given);
        }
    }

    private long call(String call, long... given) {
        calls++;
        long got = Calls.answer(real, call, given);
        Check.due(name + " | " + call + " as by the Model", got, model.answer(call, given));
        return got;
    }

    private String type(String text) {
        long last = 0;
        for (int k = 0; k < text.length(); k++) {
            last = call("feed", text.charAt(k));
        }
        return "" + last;
    }

    private static void add(StringBuilder all, String between, long next) {
        all.append(all.length() == 0 ? "" : between).append(next);
    }

    private String each(long what) {
        StringBuilder all = new StringBuilder();
        long many = call("count", 0);
        for (int task = 0; task < many; task++) {
            add(all, " ", call("of", task, what));
        }
        return all.toString();
    }

    private String causes() {
        StringBuilder all = new StringBuilder();
        long many = call("count", 0);
        for (int task = 0; task < many; task++) {
            add(all, " ", call("cause", task, 0));
            add(all, " ", call("cause", task, 1));
        }
        return all.toString();
    }

    private String row(long arm) {
        StringBuilder all = new StringBuilder();
        long many = call("arm", arm, 0);
        for (int k = 0; k < many; k++) {
            add(all, " ", call("arm", arm, 10 + k));
        }
        return all.toString();
    }

    private String entries() {
        StringBuilder all = new StringBuilder();
        long many = call("told", 6);
        for (int k = 0; k < many; k++) {
            for (int what = 0; what < 4; what++) {
                add(all, what == 0 ? ", " : " ", call("trace", k, what));
            }
        }
        return all.toString();
    }

    private String put(String[] words, int from) {
        int many = words.length - from - 2;
        long answer = call("tape", number(words[from]), number(words[from + 1]), many);
        for (int k = 0; k < many; k++) {
            call("item", number(words[from]), k, number(words[from + 2 + k]));
        }
        return "" + answer;
    }

    private String items(long tape) {
        StringBuilder all = new StringBuilder();
        for (int i = 0; i <= 60; i++) {
            long item = call("read", tape, i);
            if (item == Check.NO && i != 60 && call("read", tape, i + 1) == Check.NO) {
                break;
            }
            if (i < 60) {
                add(all, " ", item);
            }
        }
        return all.toString();
    }
}
