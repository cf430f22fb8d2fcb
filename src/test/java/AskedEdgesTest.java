/**
 * What is asked, at its edges: of a choir without CLAUSES, of SINGERS alone, of NOTES alone, of a full choir; NONE;
 * "of alike ones the first"; what counts and what just not any more. Promises 9 to 39.
 */
public final class AskedEdgesTest {
    private static final Checks c = new Checks("AskedEdgesTest");
    private static final String SEVEN = "singer 0 5 9;singer 1 60 8;singer 2 0 7;singer 3 60 30;singer 4 1 1;singer 5 2 1;"
            + "singer 0 3 4;";

    public static void main(String[] args) {
        withoutClauses();
        singersAlone();
        notesAlone();
        fullChoir();
        told();
        singer();
        ahead();
        cast();
        castAsNow();
        handed();
        bench();
        wording();
        wordings();
        who();
        listen();
        duty();
        range();
        quarrel();
        enough();
        rent();
        dearest();
        byVowel();
        words();
        mute();
        idle();
        longest();
        chorus();
        spare();
        c.end();
    }

    private static String times(int n, String text) {
        return Script.times(n, text);
    }

    private static final String[] EMPTY = {"told 0 = 0", "told 1 = 0", "told 2 = 0", "told 3 = 0", "told 4 = 0", "told 5 = 0",
        "told 6 = 0", "told 7 = 0", "told 8 = 0", "told 9 = 0", "told 10 = 0", "told 11 = 0", "singer 0 0 ! NS",
        "note 0 0 ! NS", "like 0 0 ! NS", "takes 0 0 ! NS", "would 1 0 0 0 0 0 0 0 = 1", "ahead 0 0 = 0", "ahead 0 1 = 0",
        "ahead 0 2 = 0", "ahead 20 0 = 0", "ahead 20 1 = 0", "ahead 20 2 = 0", "cast = 0", "handed 0 0 = 0",
        "handed 0 5 = 0", "bench = 0", "benched 0 = -1", "benched MAX = -1", "wording = 0", "wordings 0 = 1",
        "wordings 63 = 1", "who 0 = 1", "who 1 = 0", "listen 0 = -1", "listen 1 = -1", "duty 0 ! NS", "range 0 ! NS",
        "rent 0 0 0 ! NS", "dearest 0 = -1", "dearest 1 = -1", "voices 0 = 0", "voices 5 = 0", "sounds 0 = 0",
        "sounds 5 = 0", "beats 0 = 0", "beats 5 = 0", "words 0 ! NS", "mute = 0", "idle = 0", "alone 0 = -1",
        "alone 5 = -1", "longest 0 = -1", "longest 1 = -1", "chorus 0 = 0", "chorus 1 ! IA", "spare 0 = -1",
        "spare 1 = -1", "sunday 7 48 16 0 = 0", "sunday 7 48 16 1 = 0", "sunday 7 48 16 2 = 0", "sunday 7 48 16 3 = 0",
        "span 7 1 1 0 0 0 ! IA", "span 7 1 1 0 1 0 ! IA", "span 7 1 1 0 2 0 ! IA", "fault = -1", "count 0 = 0",
        "count 1 = 0", "count 2 = 0", "undo = -1", "restore = -1"};

    // Promise 1: "A CHOIR without CLAUSES."
    private static void withoutClauses() {
        Script.run(c, "a new object", EMPTY);
        Script.run(c, "a choir of no bytes", new String[] {"choir '" + SEVEN + "note 0 1;like 0 1;' = 7", "law '3' = 1",
            "book '0 1;' = 1", "work 'hymn;cure 0;day;hoarse 0;' = 3", "image = 1", "choir 0 = 0"}, EMPTY);
        Script.run(c, "a choir of blanks and rests", new String[] {"choir '  rest 3; ' = 0"}, EMPTY);
    }

    private static void singersAlone() {
        Script.run(c, "singers alone", "choir '" + SEVEN + "' = 7", "told 8 = 60", "cast = 0", "bench = 0", "benched 0 = 0",
                "benched 5 = 5", "benched 6 = 6", "benched 7 = -1", "wording = 0", "wordings 0 = 1", "who 0 = 128",
                "who 1 = 0", "listen 0 = -1", "listen 1 = -1", "duty 6 = 0", "range 6 = 0", "mute = 0", "idle = 127",
                "longest 0 = -1", "longest 1 = -1", "chorus 127 = 0", "ahead 20 0 = 0", "ahead 20 1 = 60", "ahead 20 2 = 0",
                "book '' = 0", "book '0 1;' = -8 @ 0", "sunday 3 48 16 0 = 0", "sunday 3 48 16 2 = 0",
                "sunday 3 48 16 3 = 0", "note 0 0 ! NS", "takes 0 0 ! NS", "words 0 ! NS");
    }

    private static void notesAlone() {
        Script.run(c, "notes alone", "choir '" + times(20, "note 5 9;") + "' = 0", "cast = -1", "bench = 0", "benched 0 = -1",
                "mute = 1048575", "sounds 5 = 1048575", "beats 5 = 180", "who 0 = 1", "who 1 = 0", "listen 0 = 0",
                "listen 1 = 1", "book '0 1;' = 1", "who 0 = 0", "who 1 = -1", "listen 0 = 1", "listen 1 = 0",
                "book '0 0;19 0;' = 2", "who 0 = 1", "who 1 = 0", "idle = 0", "chorus 0 = 0", "ahead 20 0 = 400",
                "ahead 20 1 = 0", "ahead 20 2 = 0", "sunday 5 48 16 0 = 960", "sunday 5 48 0 0 = 960",
                "sunday 5 1 16 0 = 20", "sunday 5 48 16 1 = 0", "sunday 5 48 16 3 = 0", "takes 0 0 ! NS", "dearest 0 = -1",
                "spare 0 = -1", "span 1 1 1 1 0 0 ! IA");
    }

    private static void fullChoir() {
        String full = SEVEN + times(18, "note 0 1;") + "note 3 9;note 5 1;" + times(11, "like 18 0;") + "like 19 0;";
        Script.run(c, "a full choir", "choir '" + full + "' = 7", "told 0 = 7", "told 1 = 20", "told 2 = 12", "singer 6 1 = 3",
                "note 19 0 = 5", "like 11 0 = 19", "takes 18 6 = 9", "words 19 = 33", "duty 3 = 262144", "duty 5 = 524288",
                "duty 0 = 511", "duty 6 = 7680", "mute = 0", "sounds 0 = 262143", "voices 0 = 65", "chorus 127 = 15",
                "ahead 1 0 = 5", "idle = 22", "work 'word 19 0;hoarse 6;' = 2", "told 11 = 524288", "told 4 = 64",
                "book '19 0;' = 1", "told 9 = 1", "bench = 4", "benched 1 = 3",
                "benched 2 = 6", "benched 6 = 5");
    }

    // Promise 9: each of its numbers at its edges
    private static void told() {
        Script.run(c, "bits of all", "choir '" + times(7, "singer 0 1 1;") + times(12, "note 0 1;")
                + "like 0 1;like 1 1;like 2 1;like 3 1;like 4 1;like 5 1;like 6 1;like 7 1;like 8 1;like 9 1;like 10 1;like 11 1;' = 7",
                "work 'hoarse 0;hoarse 1;hoarse 2;hoarse 3;hoarse 4;hoarse 5;hoarse 6;' = 7", "told 4 = 127",
                "work 'word 0 1;word 1 1;word 2 1;word 3 1;word 4 1;word 5 1;' = 6", "told 11 = 63",
                "work 'word 6 1;word 7 1;word 8 1;word 9 1;word 10 1;word 11 1;' = 6", "told 11 = 4095", "told 8 = 7",
                "sounds 1 = 4095", "sounds 0 = 0");
        Script.run(c, "refused by the latest work alone", "told 10 = 0", "work 'rest;rest;' = 0", "told 10 = 2",
                "work 'rest;' = 0", "told 10 = 1", "work 'day;' = 1", "told 10 = 0", "work 'rest;' = 0", "undo = 3",
                "told 10 = 0", "work 'rest;' = 0", "image = 1", "told 10 = 1", "restore = 0", "told 10 = 0");
        Script.run(c, "it stays behind a restore or image of none", "work 'rest;' = 0", "restore = -1", "told 10 = 1",
                "law '1' = 1", "book '' = 0", "told 10 = 1", "choir 'x' = -9 @ 0", "told 10 = 1", "choir '' = 0",
                "told 10 = 0");
    }

    // Promise 10: "7 how many of them it sang this DAY"
    private static void singer() {
        Script.run(c, "this day", "choir 'singer 0 5 30;note 0 1;' = 1", "work 'sing 0;sing 0;' = 2", "singer 0 5 = 2",
                "singer 0 7 = 2", "work 'day;' = 1", "singer 0 5 = 2", "singer 0 7 = 0", "work 'sing 0;' = 1", "singer 0 5 = 3",
                "singer 0 7 = 1", "undo = 2", "undo = 1", "singer 0 7 = 2", "work 'hoarse 0;' = 1", "singer 0 7 = 2");
    }

    // Promise 15: "Behind n (0 to 20) hymns"
    private static void ahead() {
        String choir = "choir 'singer 0 1 20;singer 1 1 3;note 0 1;note 1 2;' = 2";
        Script.run(c, "ahead", choir, "ahead 0 0 = 0", "ahead 0 1 = 23", "ahead 0 2 = 0", "ahead 1 0 = 0", "ahead 1 1 = 20",
                "ahead 2 0 = 1", "ahead 19 0 = 18", "ahead 19 1 = 2", "ahead 19 2 = 0", "ahead 20 0 = 19", "ahead 20 1 = 1",
                "ahead 20 2 = 1");
        Script.run(c, "what was dropped ahead of it does not count", choir, "work 'hymn;hymn;' = 2", "told 5 = 1",
                "ahead 0 0 = 0", "ahead 1 0 = 1", "ahead 18 2 = 1");
        Script.run(c, "who has none left, hoarse or not", "choir 'singer 0 1 2;singer 0 1 2;note 0 2;' = 2",
                "work 'sing 0;hoarse 0;' = 2", "ahead 0 2 = 1", "ahead 1 2 = 3", "ahead 2 2 = 3", "ahead 2 0 = 1");
    }

    // "that of fewest; of as few that of least PAY together; of alike ones the least bits; NONE"
    private static void cast() {
        Script.run(c, "no notes", "choir 'singer 0 1 1;' = 1", "cast = 0");
        Script.run(c, "no singers", "choir 'note 0 1;' = 0", "cast = -1");
        Script.run(c, "one too long by one", "choir 'singer 0 1 8;note 0 9;' = 1", "cast = -1");
        Script.run(c, "just long enough", "choir 'singer 0 1 9;note 0 9;' = 1", "cast = 1");
        Script.run(c, "all seven", "choir '" + times(7, "singer 0 1 9;") + times(7, "note 0 9;") + "' = 7", "cast = 127");
        Script.run(c, "one more than all seven", "choir '" + times(7, "singer 0 1 9;") + times(8, "note 0 9;") + "' = 7",
                "cast = -1");
        Script.run(c, "fewest ahead of least pay", "choir 'singer 0 0 5;singer 0 0 5;singer 0 60 10;note 0 5;note 0 5;' = 3",
                "cast = 4");
        Script.run(c, "least pay ahead of least bits", "choir 'singer 0 2 9;singer 0 1 9;singer 0 1 9;note 0 9;' = 3",
                "cast = 2");
        Script.run(c, "least pay by one, together", "choir 'singer 0 9 5;singer 0 3 5;singer 0 4 5;singer 0 4 5;note 0 5;note 0 5;' = 4",
                "cast = 6");
        Script.run(c, "alike: least bits", "choir 'singer 0 3 5;singer 0 3 5;singer 0 3 5;note 0 5;note 0 5;' = 3", "cast = 3");
        Script.run(c, "of seven the cheapest", "choir '" + times(6, "singer 0 2 9;") + "singer 0 1 9;note 0 9;' = 7", "cast = 64");
        Script.run(c, "of seven alike", "choir '" + times(7, "singer 0 1 9;") + "note 0 9;note 0 9;' = 7", "cast = 3");
        Script.run(c, "no pay at all", "choir 'singer 1 0 9;singer 0 0 9;note 0 1;' = 2", "cast = 2");
    }

    // "(hoarse or not, taken as cured, all with their BREATH) .. as hymn now"
    private static void castAsNow() {
        Script.run(c, "as now", "choir 'singer 0 1 9;singer 1 1 9;note 0 9;like 0 1;' = 2", "work 'hymn;hoarse 0;hoarse 1;' = 3",
                "cast = 1", "work 'word 0 1;' = 1", "cast = 2", "law 'sung*10' = 1", "cast = 2", "work 'word 0 0;' = 1",
                "cast = -1", "law 'left' = 1", "cast = 1", "law 'left+1' = 1", "cast = -1", "law 'day*10' = 1", "cast = 1",
                "work 'day;' = 1", "cast = -1", "told 4 = 3");
    }

    // "HANDED of two unlike VOWELS: how often .. next to .. (ahead of it or behind it)"; "of one VOWEL: 0"
    private static void handed() {
        Script.run(c, "no notes, one note, two", "handed 0 1 = 0", "choir 'note 0 1;' = 0", "handed 0 1 = 0", "handed 0 0 = 0",
                "choir 'note 0 1;note 1 1;' = 0", "handed 0 1 = 1", "handed 1 0 = 1", "handed 0 0 = 0", "handed 1 1 = 0",
                "choir 'note 0 1;note 0 1;' = 0", "handed 0 0 = 0", "handed 0 1 = 0");
        Script.run(c, "20 notes", "choir '" + times(10, "note 0 1;note 5 1;") + "' = 0", "handed 0 5 = 19", "handed 5 0 = 19",
                "handed 0 4 = 0", "handed 5 5 = 0");
        Script.run(c, "not round from the last to the first", "choir 'note 0 1;note 1 1;note 2 1;' = 0", "handed 0 2 = 0",
                "handed 2 0 = 0", "handed 1 2 = 1");
        Script.run(c, "as worded now", "choir 'note 0 1;note 0 1;like 1 3;' = 0", "handed 0 3 = 0", "work 'word 1 3;' = 1",
                "handed 0 3 = 1", "undo = 0", "handed 3 0 = 0");
    }

    // "of alike orders the first (place by place)"; promise 19: "NONE: there are not so many"
    private static void bench() {
        Script.run(c, "one", "choir 'singer 0 1 1;note 0 1;note 1 1;' = 1", "bench = 0", "benched 0 = 0", "benched 1 = -1",
                "benched MAX = -1");
        Script.run(c, "two", "choir 'singer 1 1 1;singer 0 1 1;note 0 1;note 1 1;' = 2", "bench = 1", "benched 0 = 0",
                "benched 1 = 1", "benched 2 = -1");
        Script.run(c, "seven, at most", "choir 'singer 0 1 1;singer 1 1 1;singer 0 1 1;singer 1 1 1;singer 0 1 1;singer 1 1 1;"
                + "singer 0 1 1;" + times(10, "note 0 1;note 1 1;") + "' = 7", "bench = 114", "benched 0 = 0", "benched 1 = 1",
                "benched 2 = 2", "benched 6 = 6", "benched 7 = -1",
                // A smaller choir behind it has nothing of its bench.
                "choir 'singer 0 1 1;singer 0 1 1;singer 1 1 1;note 0 1;note 1 1;' = 3", "bench = 2", "benched 1 = 2",
                "benched 3 = -1", "choir 'singer 0 1 1;singer 1 1 1;note 0 1;note 1 1;' = 2", "bench = 1", "benched 2 = -1",
                "choir 'singer 0 1 1;note 0 1;note 1 1;' = 1", "bench = 0", "choir '' = 0", "bench = 0");
        Script.run(c, "place by place", "choir 'singer 0 1 1;singer 0 1 1;singer 1 1 1;note 0 1;note 1 1;' = 3", "bench = 2",
                "benched 0 = 0", "benched 1 = 2", "benched 2 = 1", "benched 3 = -1");
        Script.run(c, "the last one first", "choir 'singer 1 1 1;singer 2 1 1;singer 0 1 1;note 1 1;note 0 1;note 2 1;' = 3",
                "bench = 2", "benched 0 = 0", "benched 1 = 2", "benched 2 = 1");
        Script.run(c, "hoarse or not", "choir 'singer 1 1 1;singer 0 1 1;note 0 1;note 1 1;' = 2", "work 'hoarse 0;hoarse 1;' = 2",
                "bench = 1", "benched 1 = 1");
    }

    // "WORDING: .. that of fewest; of as few the least bits"; "(0: there are no NOTES)"
    private static void wording() {
        Script.run(c, "wording", "wording = 0", "choir 'note 5 1;' = 0", "wording = 32", "choir 'note 5 1;like 0 0;' = 0",
                "wording = 1", "choir 'note 0 1;note 1 1;note 2 1;note 3 1;note 4 1;note 5 1;' = 0", "wording = 63",
                "choir 'note 0 1;note 1 1;like 0 5;like 1 5;' = 0", "wording = 32",
                "choir 'note 0 1;note 1 1;like 0 2;like 1 3;' = 0", "wording = 3",
                "choir 'note 4 1;note 5 1;like 0 3;like 1 3;like 0 2;like 1 2;' = 0", "wording = 4", "work 'word 0 2;' = 1",
                "wording = 4");
    }

    // "in how many ways the hymn can be worded with these alone (.. LIKES told twice count once)"
    private static void wordings() {
        Script.run(c, "wordings", "wordings 0 = 1", "wordings 63 = 1", "choir 'note 5 1;' = 0", "wordings 0 = 0",
                "wordings 31 = 0", "wordings 32 = 1", "wordings 63 = 1", "choir 'note 5 1;like 0 4;like 0 4;like 0 5;' = 0",
                "wordings 63 = 2", "wordings 16 = 1", "wordings 48 = 2", "wordings 15 = 0", "work 'word 0 4;' = 1",
                "wordings 32 = 1");
        StringBuilder likes = new StringBuilder();
        for (int n = 0; n < 12; n++) {
            likes.append("like ").append(n + 8).append(" 1;");
        }
        Script.run(c, "the most", "choir '" + times(20, "note 0 1;") + likes + "' = 0", "wordings 63 = 4096", "wordings 3 = 4096",
                "wordings 1 = 1", "wordings 2 = 0");
        Script.run(c, "all six by one note", "choir 'note 0 1;note 0 1;like 0 1;like 0 2;like 0 3;like 0 4;like 0 5;like 1 1;"
                + "like 1 2;like 1 3;like 1 4;like 1 5;' = 0", "wordings 63 = 36", "wordings 21 = 9", "words 0 = 63");
    }

    // "how many, the first (fewest, then least bits; NONE)"
    private static void who() {
        String three = "choir 'singer 0 1 1;singer 0 1 1;singer 1 1 1;note 0 1;note 1 1;note 2 1;' = 3";
        Script.run(c, "who", three, "who 0 = 8", "who 1 = 0", "book '0 0;' = 1", "who 0 = 2", "who 1 = 3", "book '1 0;' = 1",
                "who 0 = 4", "who 1 = 4", "book '0 1;1 0;' = 2", "who 0 = 3", "who 1 = 4", "book '2 1;' = 1", "who 0 = 0",
                "who 1 = -1", "book '2 0;' = 1", "who 0 = 8", "who 1 = 0", "book '0 0;1 0;2 0;' = 3", "who 0 = 1", "who 1 = 7",
                "book '' = 0", "who 0 = 8");
        Script.run(c, "were just these hoarse, whoever is", three, "work 'hoarse 0;hoarse 1;hoarse 2;' = 3", "who 0 = 8",
                "who 1 = 0", "book '0 1;' = 1", "who 0 = 6", "who 1 = 0");
        Script.run(c, "all with what is left to them now", three, "work 'sing 0;' = 1", "book '0 0;' = 1", "who 0 = 4",
                "who 1 = 2", "work 'sing 0;' = 1", "who 0 = 8", "who 1 = 0", "work 'day;' = 1", "who 0 = 2");
        Script.run(c, "seven", "choir '" + times(7, "singer 0 1 1;") + times(7, "note 0 1;") + "' = 7", "who 0 = 128",
                "book '6 0;' = 1", "who 0 = 127", "who 1 = 1", "book '0 0;' = 1", "who 0 = 1", "who 1 = 127",
                "book '6 1;' = 1", "who 0 = 1", "who 1 = 0", "book '3 0;2 1;' = 2", "who 0 = 35", "who 1 = 15");
    }

    // "fewest such sets are left at the worst, of these the first"; "NONE both: all are in lines, or there are none"
    private static void listen() {
        String two = "choir 'singer 0 1 1;singer 1 1 1;note 2 1;note 0 1;note 1 1;' = 2";
        Script.run(c, "listen", two, "listen 0 = 1", "listen 1 = 2", "book '1 1;' = 1", "listen 0 = 2", "listen 1 = 1",
                "book '1 1;2 0;' = 2", "listen 0 = 0", "listen 1 = 1", "book '1 1;2 0;0 0;' = 3", "listen 0 = -1",
                "listen 1 = -1", "book '0 1;' = 1", "listen 0 = 1", "listen 1 = 0", "book '0 1;1 1;2 1;' = 3",
                "listen 0 = -1", "listen 1 = -1", "book '2 1;1 0;' = 2", "listen 0 = 0", "listen 1 = 1", "book '' = 0",
                "listen 0 = 1");
        Script.run(c, "the 20th", "choir 'singer 1 1 1;" + times(19, "note 0 1;") + "note 1 1;' = 1", "listen 0 = 19",
                "listen 1 = 1", "book '19 1;' = 1", "listen 0 = 0", "listen 1 = 1");
        Script.run(c, "no notes", "choir 'singer 1 1 1;' = 1", "listen 0 = -1", "listen 1 = -1");
    }

    private static void duty() {
        Script.run(c, "duty", "choir 'singer 0 1 2;singer 0 1 9;note 0 1;note 0 2;note 1 1;note 0 1;' = 2", "duty 0 = 9",
                "duty 1 = 2", "work 'hoarse 1;' = 1", "duty 0 = 9", "duty 1 = 0", "work 'hymn;' = 1", "duty 0 = 0");
        Script.run(c, "the 20th", "choir 'singer 0 1 20;" + times(20, "note 0 1;") + "' = 1", "duty 0 = 1048575",
                "work 'sing 0;' = 1", "duty 0 = 524287");
    }

    // "of 20 hymns .. the number of the last (from 1 on) in which it would sing any NOTE; 0: in none"
    private static void range() {
        Script.run(c, "range", "choir 'singer 0 1 19;singer 0 1 20;singer 0 1 21;singer 1 1 1;singer 2 1 1;note 0 1;note 2 2;' = 5",
                "range 0 = 19", "range 1 = 20", "range 2 = 0", "range 3 = 0", "range 4 = 0", "work 'hoarse 0;' = 1",
                "range 0 = 0", "range 1 = 20", "range 2 = 0", "work 'hoarse 1;' = 1", "range 2 = 20", "law '0' = 1",
                "range 2 = 20", "range 1 = 0", "range 4 = 20");
        Script.run(c, "not in the first, but in a later one", "choir 'singer 0 1 1;singer 0 1 2;note 0 1;' = 2", "range 0 = 1",
                "range 1 = 3");
    }

    // "QUARREL by v, w (0 to 99)"
    private static void quarrel() {
        int[] edges = {0, 1, 98, 99};
        for (int v : edges) {
            for (int w : edges) {
                // Who quarrels with one that yields has w more; with one that quarrels w less.
                Script.run(c, "quarrel " + v + ", " + w, "quarrel " + v + " " + w + " 0 = " + (w == 0 ? 4 : 2),
                        "quarrel " + v + " " + w + " 1 = " + (w == 0 ? 0 : 1),
                        "quarrel " + v + " " + w + " 2 = " + (w == 0 ? 2 * v : v + w));
            }
        }
    }

    private static void enough(int n, int k, int q, String above, String below) {
        String of = n + " " + k + " " + q;
        Script.run(c, "enough " + of, "enough " + of + " 0 = " + above, "enough " + of + " 1 = " + below);
    }

    // "ENOUGH of n (0 to 12), k (0 to 13), q (0 to 16): .. in least terms"
    private static void enough() {
        for (int n = 0; n <= 12; n++) {
            for (int q = 0; q <= 16; q += 16) {
                enough(n, 0, q, "1", "1");
                enough(n, n + 1, q, "0", "1");
                enough(n, 13, q, "0", "1");
                enough(n, n, q, q == 0 || n == 0 ? "1" : "0", "1");
            }
        }
        enough(1, 1, 1, "15", "16");
        enough(1, 1, 15, "1", "16");
        enough(1, 1, 8, "1", "2");
        enough(2, 1, 8, "3", "4");
        enough(2, 2, 8, "1", "4");
        enough(12, 12, 15, "1", "281474976710656");
        enough(12, 1, 15, "151728638820031", "281474976710656");
        enough(12, 12, 1, "129746337890625", "281474976710656");
        enough(12, 12, 8, "1", "4096");
        enough(12, 1, 8, "4095", "4096");
        enough(12, 0, 9, "1", "1");
        enough(12, 13, 9, "0", "1");
        enough(12, 12, 14, "1", "68719476736");
    }

    // "RENT of n .. no more than a bound, the greatest by which no more than n are given (all, if they are no more)"
    private static void rent() {
        String seven = "choir '" + times(7, "singer 0 60 1;") + "' = 7";
        Script.run(c, "seven by 60", seven, "rent 0 127 0 = 0", "rent 0 127 6 = 0", "rent 0 127 7 = 1", "rent 6 127 13 = 1",
                "rent 6 127 14 = 2", "rent 6 127 412 = 58", "rent 6 127 413 = 59", "rent 6 127 419 = 59",
                "rent 6 127 420 = 60", "rent 6 127 421 = 60", "rent 0 127 999 = 60", "rent 0 0 999 = 0", "rent 0 126 999 = 0",
                "rent 6 64 59 = 59", "rent 6 64 60 = 60", "rent 6 64 61 = 60", "rent 6 63 60 = 0");
        Script.run(c, "unlike pays", "choir 'singer 0 0 1;singer 0 1 1;singer 0 10 1;singer 0 10 1;' = 4", "rent 0 15 21 = 0",
                "rent 1 15 0 = 0", "rent 1 15 2 = 0", "rent 2 15 2 = 0", "rent 1 15 3 = 1", "rent 2 15 3 = 1",
                "rent 2 15 4 = 1", "rent 2 15 5 = 2", "rent 2 15 20 = 9", "rent 2 15 21 = 10", "rent 3 15 21 = 10",
                "rent 0 1 0 = 0", "rent 0 1 999 = 0", "rent 2 5 9 = 9");
    }

    // "The dearest SINGER .., of alike ones the first, its PAY (1); NONE both: there are none"
    private static void dearest() {
        Script.run(c, "dearest", "dearest 0 = -1", "dearest 1 = -1", "choir 'singer 0 0 1;singer 0 0 1;' = 2", "dearest 0 = 0",
                "dearest 1 = 0", "choir '" + SEVEN + "' = 7", "dearest 0 = 1", "dearest 1 = 60", "work 'hoarse 1;' = 1",
                "dearest 0 = 1", "choir 'singer 0 1 1;singer 0 1 1;singer 0 2 1;' = 3", "dearest 0 = 2", "dearest 1 = 2");
    }

    // Promises 30 to 32, 36
    private static void byVowel() {
        Script.run(c, "by vowel", "choir '" + SEVEN + "note 0 9;note 5 9;note 0 1;like 0 5;' = 7", "voices 0 = 65",
                "voices 1 = 2", "voices 5 = 32", "sounds 0 = 5", "sounds 5 = 2", "sounds 1 = 0", "beats 0 = 10", "beats 5 = 9",
                "beats 1 = 0", "alone 0 = -1", "alone 1 = 1", "alone 5 = 5", "work 'word 0 5;hoarse 0;hoarse 5;' = 3",
                "voices 0 = 65", "voices 5 = 32", "sounds 0 = 4", "sounds 5 = 3", "beats 0 = 1", "beats 5 = 18",
                "alone 0 = -1", "alone 5 = 5");
        Script.run(c, "all of one vowel", "choir '" + times(7, "singer 5 1 1;") + times(20, "note 5 9;") + "' = 7",
                "voices 5 = 127", "voices 0 = 0", "sounds 5 = 1048575", "beats 5 = 180", "alone 5 = -1", "alone 0 = -1");
        Script.run(c, "the only one is the seventh", "choir '" + times(6, "singer 5 1 1;") + "singer 0 1 1;' = 7",
                "alone 0 = 6", "alone 5 = -1", "choir 'singer 0 1 1;' = 1", "alone 0 = 0", "choir 'singer 0 1 1;singer 0 1 1;' = 2",
                "alone 0 = -1");
    }

    private static void words() {
        Script.run(c, "words", "choir 'note 0 1;note 5 1;like 0 5;like 0 0;' = 0", "words 0 = 33", "words 1 = 32",
                "work 'word 0 5;' = 1", "words 0 = 33");
    }

    // "NOTES (bits) that are SUNG BY none now (each by itself)"
    private static void mute() {
        Script.run(c, "mute", "choir 'singer 0 1 5;note 0 5;note 0 5;note 0 6;note 1 1;' = 1", "mute = 12", "work 'hoarse 0;' = 1",
                "mute = 15", "work 'cure 0;hymn;' = 2", "mute = 15", "law '0' = 1", "mute = 8");
    }

    // "SINGERS (bits) who would sing nothing, as hymn now"
    private static void idle() {
        Script.run(c, "idle", "choir 'singer 0 1 5;singer 0 1 5;singer 1 1 5;note 0 5;' = 3", "idle = 6", "work 'sing 0;' = 1",
                "idle = 5", "work 'sing 0;' = 1", "idle = 7", "work 'day;hoarse 0;' = 2", "idle = 5");
    }

    // "The longest NOTE (what 0), of alike ones the first, its LENGTH (1); NONE both: there are none"
    private static void longest() {
        Script.run(c, "longest", "longest 0 = -1", "longest 1 = -1", "choir 'note 0 1;' = 0", "longest 0 = 0", "longest 1 = 1",
                "choir 'note 0 8;note 1 9;note 2 9;' = 0", "longest 0 = 1", "longest 1 = 9",
                "choir '" + times(19, "note 0 8;") + "note 0 9;' = 0", "longest 0 = 19", "longest 1 = 9");
    }

    // "How many NOTES would be sung, as hymn now, were told SINGERS (bits) not hoarse, and all others."
    private static void chorus() {
        Script.run(c, "chorus", "choir 'singer 0 1 5;singer 0 1 5;note 0 5;note 0 5;note 0 5;' = 2", "chorus 0 = 0",
                "chorus 1 = 1", "chorus 2 = 1", "chorus 3 = 2", "chorus 4 ! IA", "chorus -1 ! IA", "chorus MIN ! IA",
                "work 'sing 0;hoarse 1;' = 2", "chorus 1 = 0", "chorus 2 = 1", "chorus 3 = 1", "told 4 = 2");
        Script.run(c, "20 of 20", "choir '" + times(6, "singer 0 1 1;") + "singer 0 1 20;" + times(20, "note 0 1;") + "' = 7",
                "chorus 64 = 20", "chorus 127 = 20", "chorus 63 = 6", "chorus 128 ! IA");
    }

    // "The SINGER with least breath left (what 0), of alike ones the first, how much (1); NONE both: there are none"
    private static void spare() {
        Script.run(c, "spare", "spare 0 = -1", "spare 1 = -1", "choir 'singer 0 1 5;singer 0 1 4;singer 0 1 4;note 0 4;' = 3",
                "spare 0 = 1", "spare 1 = 4", "work 'sing 0;' = 1", "spare 0 = 0", "spare 1 = 1", "work 'sing 0;' = 1",
                "spare 0 = 1", "spare 1 = 0", "work 'sing 0;' = 1", "spare 0 = 1", "spare 1 = 0", "work 'hoarse 1;' = 1",
                "spare 0 = 1");
    }
}
