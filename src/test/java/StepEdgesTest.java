/**
 * The edges of what WORK does: who a NOTE is SUNG BY, what is REFUSED, DAY 400, what is owed at most, the 200 STEPS,
 * the 16 WORKS.
 */
public final class StepEdgesTest {
    private static final Checks c = new Checks("StepEdgesTest");
    private static final String ONE = "singer 0 5 9;note 0 2;";

    public static void main(String[] args) {
        atFirst();
        sungByTheFirst();
        noMoreThanIsLeft();
        sungByNone();
        sing();
        hymn();
        rest();
        hoarseAndCure();
        word();
        day();
        lastDay();
        owedAtMost();
        owedToAll();
        agains();
        begunAtMost();
        howManyWereDone();
        sixteenWorks();
        faultyWorkIsNone();
        undoneOneByOne();
        c.end();
    }

    private static String times(int n, String text) {
        return Script.times(n, text);
    }

    // "It is DAY 0 at first; all SINGERS have their BREATH, none is hoarse, nothing was sung; each NOTE .. its V"
    private static void atFirst() {
        String[] first = {"told 3 = 0", "told 4 = 0", "told 5 = 0", "told 6 = 0", "told 7 = 0", "told 8 = 31",
            "told 10 = 0", "told 11 = 0", "singer 0 3 = 1", "singer 1 3 = 30", "singer 0 4 = 0", "singer 1 4 = 0",
            "singer 0 5 = 0", "singer 1 5 = 0", "singer 0 6 = 0", "singer 1 6 = 0", "singer 0 7 = 0", "singer 1 7 = 0",
            "note 0 0 = 0", "note 1 0 = 5", "count 0 = 0", "count 2 = 0"};
        String told = "choir 'singer 0 1 1;singer 5 2 30;note 0 1;note 5 9;like 0 5;like 1 0;' = 2";
        Script.run(c, "at first", new String[] {told}, first);
        Script.run(c, "at first once more", new String[] {told,
            "work 'word 0 5;hymn;hoarse 0;hoarse 0;day;hymn;word 1 0;hoarse 1;hymn;' = 8", "image = 1", told}, first);
    }

    // "A NOTE is SUNG BY the first SINGER of its VOWEL by now, not hoarse"
    private static void sungByTheFirst() {
        Script.run(c, "the first of its vowel", "choir 'singer 1 1 9;singer 0 1 9;singer 0 1 9;note 0 2;like 0 1;' = 3",
                "note 0 3 = 1", "work 'sing 0;' = 1", "singer 1 3 = 7", "singer 2 3 = 9", "work 'hoarse 1;' = 1",
                "note 0 3 = 2", "work 'sing 0;' = 1", "singer 1 3 = 7", "singer 2 3 = 7", "work 'hoarse 2;' = 1",
                "note 0 3 = -1", "work 'word 0 1;' = 1", "note 0 3 = 0", "work 'sing 0;' = 1", "singer 0 3 = 7",
                "work 'cure 1;word 0 0;' = 2", "note 0 3 = 1");
        Script.run(c, "the seventh", "choir '" + times(6, "singer 1 1 9;") + "singer 0 1 9;note 0 2;' = 7", "note 0 3 = 6");
    }

    // "of whom it TAKES no more than is left"
    private static void noMoreThanIsLeft() {
        Script.run(c, "just as much", "choir 'singer 0 1 5;singer 0 1 5;note 0 5;' = 2", "note 0 3 = 0", "work 'sing 0;' = 1",
                "singer 0 3 = 0", "note 0 3 = 1", "work 'sing 0;' = 1", "singer 1 3 = 0", "note 0 3 = -1",
                "work 'sing 0;' = 0", "told 10 = 1");
        Script.run(c, "one too much", "choir 'singer 0 1 4;singer 0 1 6;note 0 5;' = 2", "note 0 3 = 1", "work 'sing 0;' = 1",
                "singer 0 3 = 4", "singer 1 3 = 1", "note 0 3 = -1");
        Script.run(c, "30 of 30, of 29", "choir 'singer 0 1 29;singer 0 1 30;note 0 1;' = 2", "law '30' = 1", "note 0 3 = 1",
                "law '29' = 1", "note 0 3 = 0", "law '31' = 1", "note 0 3 = 1", "work 'sing 0;' = 1", "singer 1 3 = 0");
        Script.run(c, "0 of 0", "choir 'singer 0 1 5;note 0 5;' = 1", "work 'sing 0;' = 1", "note 0 3 = -1", "law '0' = 1",
                "note 0 3 = 0", "work 'sing 0;' = 1", "singer 0 3 = 0", "singer 0 5 = 2", "law '1' = 1", "note 0 3 = -1");
    }

    // "NONE"
    private static void sungByNone() {
        Script.run(c, "without singers", "choir 'note 0 1;' = 0", "note 0 3 = -1", "mute = 1", "work 'sing 0;' = 0");
        Script.run(c, "of another vowel", "choir 'singer 1 1 9;note 0 1;' = 1", "note 0 3 = -1", "mute = 1",
                "work 'sing 0;' = 0");
        Script.run(c, "hoarse", "choir 'singer 0 1 9;note 0 1;' = 1", "work 'hoarse 0;' = 1", "note 0 3 = -1", "mute = 1",
                "work 'sing 0;' = 0", "singer 0 3 = 9");
    }

    // "sing: .. (REFUSED, if it is SUNG BY none)"
    private static void sing() {
        Script.run(c, "sung", "choir '" + ONE + "' = 1", "work 'sing 0;' = 1", "singer 0 3 = 7", "singer 0 5 = 1",
                "singer 0 7 = 1", "told 6 = 1", "told 5 = 0", "told 10 = 0");
        Script.run(c, "refused, and changes nothing", "choir '" + ONE + "note 1 1;' = 1", "work 'sing 1;' = 0", "told 10 = 1",
                "singer 0 3 = 9", "singer 0 5 = 0", "told 5 = 0", "told 6 = 0", "told 8 = 9");
    }

    // "those SUNG BY none are DROPPED (never REFUSED)"
    private static void hymn() {
        Script.run(c, "without notes", "choir 'singer 0 5 9;' = 1", "work 'hymn;' = 1", "told 5 = 0", "told 6 = 0",
                "told 10 = 0");
        Script.run(c, "without anything", "work 'hymn;' = 1", "told 5 = 0", "told 10 = 0");
        Script.run(c, "20 notes without singers", "choir '" + times(20, "note 5 9;") + "' = 0", "work 'hymn;' = 1",
                "told 5 = 20", "told 6 = 0", "told 10 = 0", "work 'again 60 [hymn;hymn;hymn;];' = 180", "told 5 = 3620");
        Script.run(c, "20 notes, all sung", "choir 'singer 5 9 20;" + times(20, "note 5 1;") + "' = 1", "work 'hymn;' = 1",
                "told 5 = 0", "told 6 = 20", "singer 0 3 = 0", "singer 0 7 = 20", "work 'hymn;' = 1", "told 5 = 20",
                "told 6 = 20", "told 10 = 0");
        Script.run(c, "one is dropped, a later one is sung", "choir 'singer 0 9 5;note 0 3;note 0 3;note 0 2;note 1 1;' = 1",
                "work 'hymn;' = 1", "told 5 = 2", "told 6 = 2", "singer 0 3 = 0", "work 'hymn;' = 1", "told 5 = 6");
    }

    // "rest: each SINGER has R more left, its BREATH at most (REFUSED, if all have theirs)"
    private static void rest() {
        String two = "singer 0 1 9;singer 1 1 9;note 0 4;note 0 3;note 1 1;";
        Script.run(c, "all have theirs", "choir '" + two + "' = 2", "work 'rest;' = 0", "told 10 = 1", "told 8 = 18");
        Script.run(c, "without singers", "work 'rest;' = 0", "told 10 = 1");
        Script.run(c, "one lacks one", "choir '" + two + "' = 2", "work 'sing 2;rest;' = 2", "singer 1 3 = 9", "told 10 = 0",
                "work 'rest;' = 0", "told 10 = 1");
        Script.run(c, "just 5 lacking, and one more", "choir 'singer 0 1 9;singer 1 1 9;note 0 5;note 1 6;' = 2",
                "work 'hymn;rest;' = 2", "singer 0 3 = 9", "singer 1 3 = 8", "work 'rest;rest;' = 1", "singer 1 3 = 9");
        Script.run(c, "the hoarse rest, too", "choir '" + two + "' = 2", "work 'hymn;hoarse 0;rest;' = 3", "singer 0 3 = 7",
                "singer 1 3 = 9", "work 'rest;' = 1", "singer 0 3 = 9", "work 'rest;' = 0");
        Script.run(c, "a rest of 0 is done, if one lacks breath", "choir '" + two + "rest 0;' = 2", "work 'rest;' = 0",
                "work 'sing 0;rest;rest;' = 3", "singer 0 3 = 5", "told 10 = 0");
    }

    // "hoarse, cure: .. (REFUSED, if it is, or is not)"
    private static void hoarseAndCure() {
        Script.run(c, "hoarse and cure", "choir '" + times(7, "singer 0 1 1;") + "' = 7", "work 'cure 0;cure 6;' = 0",
                "told 10 = 2", "told 4 = 0", "work 'hoarse 0;hoarse 6;' = 2", "told 4 = 65", "singer 0 4 = 1",
                "singer 1 4 = 0", "singer 6 4 = 1", "work 'hoarse 0;hoarse 6;' = 0", "told 10 = 2", "told 4 = 65",
                "work 'hoarse 1;hoarse 2;hoarse 3;hoarse 4;hoarse 5;' = 5", "told 4 = 127", "work 'cure 6;cure 6;' = 1",
                "told 4 = 63", "told 10 = 1", "work 'day;' = 1", "told 4 = 63");
    }

    // "word: .. (REFUSED, if it is, or V is neither its told one nor in a LIKE of N)"
    private static void word() {
        Script.run(c, "word", "choir 'note 1 1;note 2 1;like 0 3;like 1 5;' = 0", "work 'word 0 1;' = 0", "told 10 = 1",
                "work 'word 0 5;' = 0", "work 'word 0 2;' = 0", "work 'word 1 3;' = 0", "work 'word 0 0;' = 0",
                "told 11 = 0", "work 'word 0 3;' = 1", "note 0 0 = 3", "note 0 1 = 1", "told 11 = 1", "work 'word 0 3;' = 0",
                "work 'word 0 1;word 0 1;' = 1", "told 11 = 0", "work 'word 1 5;word 0 3;' = 2", "told 11 = 3");
        Script.run(c, "the 20th note, the 12th like", "choir '" + times(20, "note 0 1;") + times(11, "like 0 1;")
                + "like 19 5;' = 0", "work 'word 19 1;' = 0", "work 'word 19 5;' = 1", "told 11 = 524288", "sounds 5 = 524288",
                "sounds 0 = 524287", "work 'word 19 0;' = 1", "told 11 = 0");
        Script.run(c, "a like of its own vowel", "choir 'note 4 1;like 0 4;' = 0", "work 'word 0 4;' = 0", "told 10 = 1");
    }

    // "day ..: all have their BREATH; each who sang any NOTE that DAY is owed its PAY more .. ; the DAY is one more"
    private static void day() {
        Script.run(c, "day", "choir 'singer 0 5 9;singer 0 7 9;singer 1 0 9;note 0 9;note 1 1;' = 3",
                "work 'sing 0;sing 1;sing 1;hoarse 0;day;' = 5", "told 3 = 1", "singer 0 6 = 5", "singer 1 6 = 0",
                "singer 2 6 = 0", "told 7 = 5", "told 8 = 27", "singer 0 7 = 0", "singer 2 7 = 0", "singer 2 5 = 2",
                "told 6 = 3", "work 'day;' = 1", "told 3 = 2", "told 7 = 5", "work 'sing 0;day;' = 2", "singer 0 6 = 5",
                "singer 1 6 = 7", "told 7 = 12");
        Script.run(c, "without anything", "work 'day;' = 1", "told 3 = 1", "told 7 = 0");
    }

    private static final String[] TO_399 = {"choir '" + ONE + "' = 1", "work 'again 60 [day;day;day;];' = 180",
        "work 'again 60 [day;day;day;];' = 180", "work 'again 39 [day;];' = 39", "told 3 = 399"};

    // "day (REFUSED on DAY 400)"
    private static void lastDay() {
        Script.run(c, "399 is not the last", TO_399, "work 'day;' = 1", "told 3 = 400", "told 10 = 0", "undo = 3",
                "told 3 = 399", "work 'day;day;' = 1", "told 3 = 400", "told 10 = 1");
        Script.run(c, "refused, and changes nothing", TO_399, "work 'day;sing 0;' = 2", "work 'day;' = 0", "told 10 = 1",
                "told 3 = 400", "singer 0 3 = 7", "singer 0 6 = 0", "singer 0 7 = 1", "work 'again 60 [day;];' = 0",
                "told 10 = 60", "work 'sing 0;rest;hoarse 0;cure 0;hymn;' = 5", "told 3 = 400");
        Script.run(c, "asked, days go beyond", TO_399, "work 'day;' = 1", "sunday 0 1 0 2 = 0", "sunday 0 2 0 2 = 5",
                "sunday 0 48 0 2 = 120", "span 0 1 48 0 0 0 = 24", "told 3 = 400");
        Script.run(c, "a new choir is at day 0", TO_399, "work 'day;' = 1", "choir '" + ONE + "' = 1", "told 3 = 0",
                "work 'day;' = 1", "told 3 = 1");
    }

    // "is owed its PAY more (9,999 at most)"
    private static void owedAtMost() {
        String ninetyNine = "work 'again 60[sing 0;day;];again 39[sing 0;day;];' = 198";
        Script.run(c, "9,999 just so: 303 days by 33", "choir 'singer 0 33 1;note 0 1;' = 1", ninetyNine, ninetyNine,
                ninetyNine, "singer 0 6 = 9801", "work 'again 5[sing 0;day;];' = 10", "singer 0 6 = 9966",
                "work 'sing 0;day;' = 2", "singer 0 6 = 9999", "told 7 = 9999", "work 'sing 0;day;' = 2",
                "singer 0 6 = 9999", "told 3 = 304", "undo = 5", "singer 0 6 = 9999", "undo = 4", "singer 0 6 = 9966");
        Script.run(c, "9,999 of 10,000: 250 days by 40", "choir 'singer 0 40 1;note 0 1;' = 1", ninetyNine, ninetyNine,
                "work 'again 51[sing 0;day;];' = 102", "singer 0 6 = 9960", "work 'sing 0;day;' = 2", "singer 0 6 = 9999",
                "sunday 0 2 0 2 = 9999", "told 7 = 9999");
        Script.run(c, "asked, too", "choir 'singer 0 40 1;note 0 1;' = 1", ninetyNine, ninetyNine,
                "work 'again 51[sing 0;day;];' = 102", "sunday 0 1 0 2 = 9960", "sunday 0 2 0 2 = 9999",
                "sunday 0 48 0 2 = 9999", "told 7 = 9960");
        Script.run(c, "no pay", "choir 'singer 0 0 1;note 0 1;' = 1", ninetyNine, "singer 0 6 = 0");
    }

    // Promise 9: "7 what is owed to all together": each has its own bound
    private static void owedToAll() {
        String seven = "singer 0 60 1;singer 1 60 1;singer 2 60 1;singer 3 60 1;singer 4 60 1;singer 5 60 1;singer 5 60 1;"
                + "note 0 1;note 1 1;note 2 1;note 3 1;note 4 1;note 5 1;note 5 1;";
        Script.run(c, "seven times 9,999", "choir '" + seven + "' = 7",
                "work 'again 60[hymn;day;];again 39[hymn;day;];' = 198", "told 7 = 41580",
                "work 'again 60[hymn;day;];again 7[hymn;day;];' = 134", "told 7 = 69720", "work 'hymn;day;' = 2",
                "told 7 = 69993", "singer 6 6 = 9999");
    }

    // "again" N .. (N 0 to 60)
    private static void agains() {
        Script.run(c, "0, 1, 60 times", "choir '" + ONE + "' = 1", "work 'again 0[day;];' = 0", "told 3 = 0",
                "work 'again 1[day;];' = 1", "told 3 = 1", "work 'again 60[day;];' = 60", "told 3 = 61",
                "work 'again 60[];' = 0", "work 'again 3[again 0[day;];day;];' = 3", "told 3 = 64",
                "work 'again 2[again 2[again 2[again 2[again 2[again 2[day;];];];];];];' = 64", "told 3 = 128");
        Script.run(c, "its steps in order, each time", "choir '" + ONE + "' = 1",
                "work 'again 3[hoarse 0;hoarse 0;cure 0;];' = 6", "told 10 = 3", "work 'again 2[hoarse 0;day;];' = 3",
                "told 10 = 1");
    }

    // "200 STEPS at most are begun by one WORK (an again, too, each time it is come to; REFUSED ones, too)"
    private static void begunAtMost() {
        String refused = "again 60[cure 0;cure 0;cure 0;];";
        Script.run(c, "all of 200, with 19 days", "choir '" + ONE + "' = 1", "work '" + refused + times(19, "day;") + "' = 19",
                "told 10 = 180", "told 3 = 19");
        Script.run(c, "of 201 the last is left out", "choir '" + ONE + "' = 1",
                "work '" + refused + times(20, "day;") + "' = 19", "told 10 = 180", "told 3 = 19");
        Script.run(c, "the 199th is an again", "choir '" + ONE + "' = 1",
                "work '" + refused + times(17, "day;") + "again 5[hymn;];' = 18", "told 6 = 1");
        Script.run(c, "the 200th is an again", "choir '" + ONE + "' = 1",
                "work '" + refused + times(18, "day;") + "again 5[hymn;];hymn;' = 18", "told 6 = 0", "told 3 = 18");
        Script.run(c, "an again of 0 is begun, too", "choir '" + ONE + "' = 1",
                "work '" + refused + times(18, "day;") + "again 0[];hymn;' = 18", "told 6 = 0");
        Script.run(c, "an again each time it is come to", "choir '" + ONE + "' = 1",
                "work 'again 60[again 0[];again 0[];];again 60[hymn;];" + times(19, "day;") + "' = 78", "told 3 = 18");
        Script.run(c, "an again in an again", "choir '" + ONE + "' = 1", "work 'again 60[again 60[day;];];' = 195",
                "told 3 = 195");
        Script.run(c, "refused ones alone", "choir '" + ONE + "' = 1",
                "work 'again 60[cure 0;cure 0;cure 0;cure 0;];day;' = 0", "told 10 = 199", "told 3 = 0");
        Script.run(c, "a hymn is one step", "choir 'singer 0 1 1;" + times(20, "note 0 1;") + "' = 1",
                "work 'again 60[hymn;hymn;hymn;];day;' = 181", "told 3 = 1", "told 5 = 3599");
        Script.run(c, "each work anew", "choir '" + ONE + "' = 1", "work 'again 60[day;day;];again 60[rest;];day;' = 121",
                "told 10 = 60", "work '" + times(37, "day;") + "' = 37", "told 3 = 158");
        Script.run(c, "agains without steps end, too", "choir '" + ONE + "' = 1",
                "work 'again 60[again 60[again 60[again 60[again 60[again 60[];];];];];];day;' = 0", "told 3 = 0");
        Script.run(c, "what is left out is in the text all the same", "choir '" + ONE + "' = 1",
                "work '" + refused + times(20, "day;") + "sing 1;' = -8 @ 117", "told 3 = 0");
    }

    // Promise 5: "how many STEPS were done (agains not counted, nor REFUSED ones)"
    private static void howManyWereDone() {
        Script.run(c, "how many", "choir '" + ONE + "note 1 1;' = 1", "work '' = 0", "work 'hymn;' = 1", "work 'cure 0;' = 0",
                "work 'again 3[cure 0;hymn;];' = 3", "told 10 = 3", "work 'hymn;' = 1", "told 10 = 0", "work 'sing 1;day;' = 1",
                "told 10 = 1", "work '' = 0", "told 10 = 0", "count 2 = 7");
    }

    private static String[] works(int n, String... then) {
        String[] lines = new String[n + 1 + then.length];
        lines[0] = "choir '" + ONE + "' = 1";
        for (int k = 1; k <= n; k++) {
            lines[k] = "work 'cure 0;day;' = 1";
        }
        System.arraycopy(then, 0, lines, n + 1, then.length);
        return lines;
    }

    // Promise 5: "-20 ahead of that (nothing is read, there is no FAULT, the TAPE is empty then): 16 WORKS are there .."
    private static void sixteenWorks() {
        Script.run(c, "the 16th", works(15, "count 2 = 15", "work 'day;' = 1", "count 2 = 16", "told 3 = 16"));
        Script.run(c, "the 17th", works(16, "work 'day;' = -20", "count 1 = 0", "count 2 = 16", "told 3 = 16", "told 10 = 1"));
        Script.run(c, "a faulty one, too: nothing is read", works(16, "law '1+' = -9 @ 2", "work 'hymm;' = -20",
                "work 'sing 9;' = -20", "work '' = -20", "count 2 = 16"));
        Script.run(c, "a wrong n is refused all the same", works(16, "feed 'day;' = 20", "work 21 ! IA", "work -1 ! IA",
                "count 1 = 20", "work 20 = -20", "count 1 = 0"));
        Script.run(c, "one undone", works(16, "work 'day;' = -20", "undo = 15", "work 'day;' = 1", "work 'day;' = -20",
                "undo = 15", "undo = 14", "work 'hymm;' = -9 @ 0", "work 'day;' = 1", "work 'day;' = 1", "work 'day;' = -20"));
        Script.run(c, "works that did nothing count, too", "work '' = 0", "work 'rest;' = 0", "count 2 = 2",
                "work 'again 9[];' = 0", "count 2 = 3");
        Script.run(c, "a new choir has none", works(16, "choir '" + ONE + "' = 1", "count 2 = 0", "undo = -1",
                "work 'day;' = 1", "count 2 = 1"));
        Script.run(c, "the other texts are read all the same", works(16, "law '1' = 1", "book '0 1;' = 1",
                "work 'day;' = -20", "takes 0 0 = 1", "told 9 = 1"));
    }

    // Promise 5: "or the FAULT less 10 (none is)"
    private static void faultyWorkIsNone() {
        Script.run(c, "none is done", works(15, "told 10 = 1", "work 'day;hymn;sing 9;' = -8 @ 14", "told 3 = 15",
                "told 6 = 0", "told 10 = 1", "count 2 = 15", "work 'day;hymn;x' = -9 @ 9", "count 2 = 15",
                "work '" + times(7, "again 1[") + "' = -7 @ 48", "count 2 = 15", "work 'day;' = 1", "count 2 = 16"));
    }

    // Promise 8: "The latest WORK that was done is undone: how many are left; -1: there is none."
    private static void undoneOneByOne() {
        Script.run(c, "nothing to undo", "undo = -1", "choir '" + ONE + "' = 1", "undo = -1", "work 'x' = -9 @ 0", "undo = -1",
                "work 'day;' = 1", "undo = 0", "undo = -1", "told 3 = 0");
        Script.run(c, "one by one", works(3, "work 'sing 0;hoarse 0;hoarse 0;' = 2", "told 10 = 1", "undo = 3", "told 10 = 0",
                "told 4 = 0", "told 6 = 0", "singer 0 3 = 9", "singer 0 7 = 0", "told 3 = 3", "undo = 2", "told 3 = 2",
                "undo = 1", "told 3 = 1", "undo = 0", "told 3 = 0", "undo = -1", "told 3 = 0", "told 10 = 0"));
        Script.run(c, "the law and the book stay", "choir '" + ONE + "' = 1", "work 'sing 0;' = 1", "law '3' = 1",
                "book '0 1;' = 1", "undo = 0", "takes 0 0 = 3", "told 9 = 1");
        Script.run(c, "what was owed, dropped, worded", "choir '" + ONE + "like 0 1;' = 1", "work 'sing 0;day;' = 2",
                "work 'word 0 1;hymn;' = 2", "told 5 = 1", "told 7 = 5", "told 11 = 1", "undo = 1", "told 5 = 0",
                "told 7 = 5", "told 11 = 0", "undo = 0", "told 7 = 0", "told 6 = 0");
    }
}
