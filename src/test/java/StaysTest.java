import java.util.ArrayList;
import java.util.Arrays;
import java.util.List;

/**
 * What stays. Two objects get the same calls, and one of them a call more: one that throws, that answers NONE, -1, -20
 * or a FAULT, or that merely asks. Behind it both must answer alike, whatever comes: all that can be asked, then WORK
 * from the TAPE, WORKS undone, IMAGES restored.
 */
public final class StaysTest {
    private static final Checks c = new Checks("StaysTest");
    private static final int MOST_CALLS = 512;
    private static final String CHOIR = "choir 'singer 0 5 9;singer 1 7 8;note 0 2;note 1 3;note 0 1;like 1 0;like 2 1;rest 2;'";
    private static final String[] LIVED = {CHOIR, "law 'length+sung%2'", "book '0 1;2 0;'", "work 'hymn;hoarse 0;hoarse 0;day;'",
        "image", "work 'word 1 0;day;'", "image", "work 'sing 0;cure 0;hymn;cure 1;'"};

    private final VowelChoir x = new VowelChoir();
    private int calls;

    public static void main(String[] args) {
        refusedCalls();
        refusedTexts();
        faultyTexts();
        fullTape();
        nothingToUndo();
        nothingToRestore();
        threeImages();
        sixteenWorks();
        asked();
        c.end();
    }

    /** Makes a call told as a line: its name, its numbers, or a text that is fed first. */
    private String make(String line) {
        int quote = line.indexOf('\'');
        String name = line.split(" ")[0];
        if (quote >= 0) {
            String text = line.substring(quote + 1, line.length() - 1);
            calls += (text.length() + 19) / 20 + 1;
            int n = Checks.feed(x, text);
            return name.equals("feed") ? "" : Checks.outcome(() -> Face.call(x, name, new int[] {n}));
        }
        String[] parts = line.split(" ");
        int[] numbers = new int[parts.length - 1];
        for (int i = 1; i < parts.length; i++) {
            numbers[i - 1] = parts[i].equals("MIN") ? Integer.MIN_VALUE
                    : parts[i].equals("MAX") ? Integer.MAX_VALUE : Integer.parseInt(parts[i]);
        }
        calls++;
        return Checks.outcome(() -> Face.call(x, name, numbers));
    }

    private static final String[] QUESTIONS = {"cast", "bench", "wording", "mute", "idle", "who 0", "who 1", "listen 0",
        "listen 1", "count 0", "count 1", "count 2", "ahead 2 0", "ahead 2 1", "ahead 2 2", "sunday 3 5 8 0",
        "sunday 3 5 8 2", "would 9 8 7 6 5 4 3 2", "would 1 2 3 5 7 2 4 6", "words 1", "sounds 0", "duty 0", "range 1"};

    private String shown() {
        StringBuilder out = new StringBuilder();
        for (int what = 0; what < 12; what++) {
            out.append(make("told " + what)).append(' ');
        }
        for (int what = 0; what < 8; what++) {
            out.append(make("singer 0 " + what)).append(' ').append(make("singer 1 " + what)).append(' ');
        }
        for (int n = 0; n < 3; n++) {
            out.append(make("note " + n + " 0")).append(' ').append(make("note " + n + " 3")).append(' ');
            out.append(make("takes " + n + " 0")).append(' ').append(make("takes " + n + " 1")).append(' ');
        }
        for (String question : QUESTIONS) {
            out.append(make(question)).append(' ');
        }
        return out.toString();
    }

    /** What can be seen now and later. */
    private String future() {
        StringBuilder out = new StringBuilder("now: ").append(shown());
        out.append(" | tape: ").append(make("work 9")).append(' ').append(make("told 3")).append(' ').append(make("told 6"));
        for (int k = 0; k < 2; k++) {
            out.append(" | undo: ").append(make("undo")).append(' ').append(shown());
        }
        for (int k = 0; k < 2; k++) {
            out.append(" | restore: ").append(make("restore")).append(' ').append(shown());
        }
        out.append(" | undo: ").append(make("undo")).append(' ').append(make("told 6")).append(' ').append(make("told 4"));
        out.append(" | restore: ").append(make("restore")).append(' ').append(make("told 6")).append(' ').append(make("told 4"));
        return out.toString();
    }

    /** The call answers so, is counted so, and leaves no trace. */
    private static void leavesNoTrace(String[] lived, String call, String due) {
        StaysTest one = new StaysTest();
        StaysTest other = new StaysTest();
        for (String line : lived) {
            one.make(line);
            other.make(line);
        }
        int missing = one.x.status(0);
        int refused = one.x.status(1);
        String got = one.make(call);
        if (due != null) {
            c.holds(call + " is " + due + " (was: " + got + ")", got.equals(due));
        }
        c.same("status(0) behind " + call, one.x.status(0), missing + (got.contains("NoSuch") ? 1 : 0));
        c.same("status(1) behind " + call, one.x.status(1), refused + (got.contains("Illegal") ? 1 : 0));
        String mine = one.future();
        String yours = other.future();
        c.holds(call + " leaves no trace:\n  " + mine + "\n  " + yours, mine.equals(yours));
        c.holds("no more than 512 calls", one.calls + 4 <= MOST_CALLS);
    }

    private static String[] and(String[] lines, String... more) {
        List<String> out = new ArrayList<>(Arrays.asList(lines));
        out.addAll(Arrays.asList(more));
        return out.toArray(new String[0]);
    }

    // All calls that throw: NoSuchElementException, IllegalArgumentException
    private static void refusedCalls() {
        String[] missing = {"singer 2 0", "singer -1 0", "singer 2 8", "singer MAX 0", "note 3 0", "note -1 4", "note MIN 0",
            "like 2 0", "like -1 2", "takes 3 0", "takes 0 2", "takes -1 -1", "duty 2", "duty -1", "range 2", "range -1",
            "rent 2 3 5", "rent -1 9 5", "words 3", "words -1"};
        String[] refused = {"told 12", "told -1", "singer 0 8", "singer 1 -1", "note 0 4", "note 2 -1", "like 0 2", "like 1 -1",
            "would 0 0 0 0 0 0 0 0", "would 10 0 0 0 0 0 0 0", "would 1 61 0 0 0 0 0 0", "would 1 0 31 0 0 0 0 0",
            "would 1 0 0 10000 0 0 0 0", "would 1 0 0 0 20 0 0 0", "would 1 0 0 0 0 6 0 0", "would 1 0 0 0 0 0 401 0",
            "would 1 0 0 0 0 0 0 7", "ahead 21 0", "ahead -1 0", "ahead 0 3", "handed 6 0", "handed 0 6", "benched -1",
            "wordings 64", "wordings -1", "who 2", "who -1", "listen 2", "listen -1", "quarrel 100 0 0", "quarrel 0 100 0",
            "quarrel 0 0 3", "enough 13 0 0 0", "enough 0 14 0 0", "enough 0 0 17 0", "enough 0 0 0 2", "rent 0 4 5",
            "rent 0 3 1000", "rent 0 3 -1", "dearest 2", "voices 6", "sounds 6", "beats 6", "alone 6", "longest 2", "chorus 4",
            "chorus -1", "spare 2", "sunday 1 0 0 0", "sunday 1 49 0 0", "sunday 1 1 17 0", "sunday 1 1 0 4",
            "span 1 0 1 0 0 0", "span 1 11 1 0 0 0", "span 1 1 0 0 0 0", "span 1 1 49 0 0 0", "span 1 1 1 17 0 0",
            "span 1 1 1 0 3 0", "span 1 1 1 0 0 2"};
        String[] lived = and(LIVED, "feed 'day;hymn;'");
        for (String call : missing) {
            leavesNoTrace(lived, call, "throws.NoSuchElementException");
        }
        for (String call : refused) {
            leavesNoTrace(lived, call, "throws.IllegalArgumentException");
        }
    }

    // Promise 3: "IllegalArgumentException: n is not 0 to the TAPE's bytes (it stays)"; fault() stays, too
    private static void refusedTexts() {
        String[] lived = and(LIVED, "law '1+'", "feed 'day;hymn;'");
        for (String kind : new String[] {"choir", "law", "work", "book"}) {
            for (String n : new String[] {"21", "-1", "601", "MIN", "MAX"}) {
                leavesNoTrace(lived, kind + " " + n, "throws.IllegalArgumentException");
                StaysTest one = new StaysTest();
                for (String line : lived) {
                    one.make(line);
                }
                one.make(kind + " " + n);
                c.same("fault() behind " + kind + " " + n, one.x.fault(), 2);
                c.same("tape behind " + kind + " " + n, one.x.count(1), 20);
            }
        }
        String[] much = and(LIVED, "feed '" + Script.times(40, "day;") + "'");
        leavesNoTrace(much, "law 151", "throws.IllegalArgumentException");
        leavesNoTrace(much, "work 151", "throws.IllegalArgumentException");
        leavesNoTrace(much, "book 61", "throws.IllegalArgumentException");
    }

    // "or the FAULT less 10 (all stays)": but for the TAPE, which is empty in both
    private static void faultyTexts() {
        String[] choirs = {"x", "singer 3 3 3;note 4 4;like 0 5;rest 9;?", "singer 5 1 1;singer 4 2 2;singer 6 0 1;",
            "note 5 1;note 4 2;note 3 3;note 2 4;like 3 0;rest 31;", Script.times(8, "singer 5 5 5;"),
            Script.times(21, "note 5 5;"), "note 0 1;" + Script.times(13, "like 0 3;"), Script.times(61, "rest 1;"), "rest 9"};
        int[] kinds = {1, 1, 2, 2, 3, 3, 3, 3, 1};
        for (int i = 0; i < choirs.length; i++) {
            leavesNoTrace(LIVED, "choir '" + choirs[i] + "'", "" + (kinds[i] - 10));
        }
        leavesNoTrace(LIVED, "law 'left+pay*'", "-9");
        leavesNoTrace(LIVED, "law ''", "-9");
        leavesNoTrace(LIVED, "law 'left+1000'", "-8");
        leavesNoTrace(LIVED, "law 'left+(((((((1)))))))'", "-7");
        leavesNoTrace(LIVED, "work 'hymn;day;hoarse 1;hymm;'", "-9");
        leavesNoTrace(LIVED, "work 'hymn;day;hoarse 1;sing 3;'", "-8");
        leavesNoTrace(LIVED, "work 'hymn;day;" + Script.times(7, "again 1[") + "hymn;" + Script.times(7, "];") + "'", "-7");
        leavesNoTrace(LIVED, "book '0 0;1 0;2 0;x'", "-9");
        leavesNoTrace(LIVED, "book '1 0;1 1;'", "-8");
        leavesNoTrace(LIVED, "book '1 0;2 2;'", "-8");
        leavesNoTrace(LIVED, "book '3 0;'", "-8");
    }

    // Promise 2: "NONE, doing nothing, if there would be more than 600"
    private static void fullTape() {
        String text = "day;hymn;" + Script.times(591, "?");
        leavesNoTrace(and(LIVED, "feed '" + text + "'"), "feed -1 -1 -1 -1 -1", "-1");
        leavesNoTrace(and(LIVED, "feed '" + text + "'"), "feed 1684108603 1684108603 1684108603 1684108603 1684108603", "-1");
    }

    // Promise 8: "-1: there is none"
    private static void nothingToUndo() {
        leavesNoTrace(new String[] {CHOIR}, "undo", "-1");
        leavesNoTrace(new String[] {CHOIR, "work 'hymn;'", "undo", "feed 'day;hymn;'"}, "undo", "-1");
        leavesNoTrace(new String[] {CHOIR, "image", "work 'hymn;hoarse 0;'", "image", "undo"}, "undo", "-1");
    }

    // Promise 43: "-1: there is none"
    private static void nothingToRestore() {
        leavesNoTrace(and(LIVED, "restore", "restore", "work 'hymn;cure 1;day;'", "feed 'day;hymn;'"), "restore", "-1");
        leavesNoTrace(new String[] {CHOIR, "work 'cure 0;hymn;'"}, "restore", "-1");
    }

    // Promise 42: "-1: there are 3"
    private static void threeImages() {
        leavesNoTrace(and(LIVED, "image", "work 'hymn;cure 1;day;'", "feed 'day;hymn;'"), "image", "-1");
    }

    // Promise 5: "-20 ..: nothing is read, there is no FAULT, the TAPE is empty then"
    private static void sixteenWorks() {
        String[] lived = LIVED;
        for (int k = 3; k < 16; k++) {
            lived = and(lived, "work 'sing 0;cure 1;'");
        }
        for (String text : new String[] {"day;hymn;", "", "x", "sing 9;", Script.times(7, "again 1[")}) {
            leavesNoTrace(lived, "work '" + text + "'", "-20");
            StaysTest one = new StaysTest();
            for (String line : and(lived, "law '1+'", "work '" + text + "'")) {
                one.make(line);
            }
            c.same("no fault behind -20 of " + text, one.x.fault(), -1);
            c.same("no tape behind -20 of " + text, one.x.count(1), 0);
        }
    }

    // "Asked, nothing stays changed"
    private static void asked() {
        String[] asks = {"fault", "told 3", "singer 0 3", "note 0 3", "like 0 0", "takes 0 0", "would 9 60 30 9999 19 5 400 6",
            "ahead 20 0", "ahead 20 1", "ahead 20 2", "cast", "handed 0 1", "bench", "benched 0", "benched 1", "benched 2",
            "wording", "wordings 63", "who 0", "who 1", "listen 0", "listen 1", "duty 0", "duty 1", "range 0", "range 1",
            "quarrel 5 3 0", "enough 12 3 5 0", "rent 0 3 9", "dearest 0", "voices 0", "sounds 0", "beats 0", "words 0", "mute",
            "idle", "alone 0", "longest 0", "chorus 0", "chorus 3", "spare 0", "sunday 1 48 16 0", "sunday 1 48 0 2",
            "span 1 10 48 16 1 0", "span 1 10 48 8 2 1", "status 0", "status 9", "count 0", "count 9"};
        for (String call : asks) {
            leavesNoTrace(and(LIVED, "feed 'day;hymn;'"), call, null);
        }
    }
}
