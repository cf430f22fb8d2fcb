/**
 * The edges of texts, sentence by sentence of "Terms": how long each text may be, how many of each there may be, from
 * where to where each number goes, the FAULTS and their places.
 */
public final class TextEdgesTest {
    private static final Checks c = new Checks("TextEdgesTest");
    private static final String SOME = "singer 0 5 9;singer 1 7 8;note 0 2;note 1 3;note 0 1;like 1 0;";
    private static final String FULL = Script.times(7, "singer 0 1 9;") + Script.times(20, "note 0 1;")
            + Script.times(12, "like 19 5;");

    public static void main(String[] args) {
        lengthOfChoir();
        lengthOfOthers();
        bytesOfTheTape();
        feedHighestByteFirst();
        numbersOfChoir();
        numbersAsTold();
        likesOfNotesToldAhead();
        restOfAChoir();
        clausesAtMost();
        singersNotesLikesAtMost();
        numbersOfLaw();
        numbersOfWork();
        numbersOfBook();
        noteTwiceInABook();
        digitsAndLettersAsManyAsStandThere();
        blanks();
        signsThatCantStand();
        endsTooEarly();
        firstFromTheLeft();
        ofOneTheLeast();
        openAtOneTime();
        grammarOfLaw();
        grammarOfWork();
        c.end();
    }

    private static String times(int n, String text) {
        return Script.times(n, text);
    }

    /** The text, read where SOME is told, has no FAULT: the answer is not one of those. */
    private static void fine(String kind, String text, int answer) {
        Script.run(c, kind + " '" + text + "'", "choir '" + SOME + "' = 2", kind + " '" + text + "' = " + answer,
                "count 1 = 0");
    }

    private static void faulty(String kind, String text, int fault, int place) {
        Script.run(c, kind + " '" + text + "'", "choir '" + SOME + "' = 2",
                kind + " '" + text + "' = " + (fault - 10) + " @ " + place, "count 1 = 0");
    }

    private static int answerOf(String kind, String text) {
        VowelChoir x = Checks.told(SOME);
        return (int) Face.call(x, kind, new int[] {Checks.feed(x, text)});
    }

    /** The number behind the one text and ahead of the other goes from least to most. */
    private static void number(String kind, String ahead, int least, int most, String behind) {
        String[] taken = {"" + least, "" + most, "00" + most, times(20, "0") + least};
        for (String n : taken) {
            int answer = answerOf(kind, ahead + n + behind);
            c.holds(kind + " " + ahead + n + behind + " is taken", answer >= 0);
            fine(kind, ahead + n + behind, answer);
        }
        // The last ones are what would come out as least, were 32 or 64 bits let wrap.
        String[] refused = {"" + (most + 1), "0" + (most + 1), "2147483647", "2147483648", "4294967295",
            "" + (4294967296L + least), "1844674407370955161" + (6 + least)};
        for (String n : refused) {
            faulty(kind, ahead + n + behind, 2, ahead.length());
        }
        if (least > 0) {
            faulty(kind, ahead + (least - 1) + behind, 2, ahead.length());
        }
        faulty(kind, ahead + "-1" + behind, 1, ahead.length());
        faulty(kind, ahead + "+1" + behind, 1, ahead.length());
    }

    /** The two texts with so many blanks between them that all is so long. */
    private static String upTo(int bytes, String head, String tail) {
        return head + times(bytes - head.length() - tail.length(), " ") + tail;
    }

    // "A CHOIR is a text of up to 600 bytes"
    private static void lengthOfChoir() {
        String rests = times(58, "rest 7;");
        String last = upTo(600, rests + "singer 5 60 30;", "note 3 9;");
        Script.run(c, "600 bytes, the last one ends a note", "choir '" + last + "' = 1", "told 1 = 1", "note 0 2 = 9");
        Script.run(c, "600 bytes, the last one can't stand there",
                "choir '" + upTo(600, rests, "note 3 9x") + "' = -9 @ 599");
        Script.run(c, "600 bytes, its last sign is wanting", "choir '" + upTo(600, rests, "note 3 9") + "' = -9 @ 600");
        Script.run(c, "600 bytes, blanks at the end", "choir '" + upTo(600, rests, "") + "' = 0");
        Script.run(c, "no more than the tape's 600", "feed '" + last + "' = 600", "choir 601 ! IA", "choir MAX ! IA",
                "count 1 = 600", "choir 600 = 1", "count 1 = 0");
        Script.run(c, "none at all", "choir 0 = 0", "fault = -1", "choir -1 ! IA", "choir MIN ! IA", "choir 1 ! IA");
    }

    // "A LAW is a text of up to 150 bytes", WORK likewise, "A BOOK is a text of up to 60 bytes"
    private static void lengthOfOthers() {
        String law = times(74, "1+") + "12";
        c.same("bytes", law.length(), 150);
        fine("law", law, 1);
        faulty("law", times(75, "1+"), 1, 150);
        Script.run(c, "a law of 151", "law '" + law + "3' ! IA", "count 1 = 160", "law 151 ! IA", "law 150 = 1");
        String work = times(30, "hymn;");
        fine("work", work, 30);
        faulty("work", work.substring(0, 149) + ",", 1, 149);
        faulty("work", times(29, "hymn;") + " hymn", 1, 150);
        Script.run(c, "work of 151", "work '" + work + " ' ! IA", "count 1 = 160", "count 2 = 0", "work 151 ! IA",
                "work 150 = 30", "count 2 = 1");
        String notes = times(20, "note 0 1;");
        String book = "0 0;1 0;2 0;3 0;4 0;5 0;6 0;7 0;8 0;9 0;10 0;11 0;12 0;13 0;";
        c.same("bytes", book.length(), 60);
        Script.run(c, "a book of 60", "choir '" + notes + "' = 0", "book '" + book + "' = 14", "told 9 = 14");
        Script.run(c, "a book of 61", "choir '" + notes + "' = 0", "book '" + book + " ' ! IA", "count 1 = 80",
                "told 9 = 0", "book 61 ! IA", "book 60 = 14");
        Script.run(c, "a book of 60, its last sign is wanting", "choir '" + notes + "' = 0",
                "book ' " + book.substring(0, 59) + "' = -9 @ 60", "told 9 = 0");
        Script.run(c, "none at all", "law 0 = -9", "fault = 0", "work 0 = 0", "fault = -1", "book 0 = 0", "fault = -1",
                "count 2 = 1", "law -1 ! IA", "work -1 ! IA", "book -1 ! IA", "law MIN ! IA", "work MIN ! IA",
                "book MIN ! IA", "law MAX ! IA", "work MAX ! IA", "book MAX ! IA");
    }

    // Promise 3: "The first n bytes of the TAPE (empty then)"; "n is not 0 to the TAPE's bytes (it stays)"
    private static void bytesOfTheTape() {
        for (String kind : new String[] {"choir", "law", "work", "book"}) {
            Script.run(c, kind + " of a tape", "feed '7                   ' = 20", kind + " 21 ! IA", "count 1 = 20",
                    kind + " -1 ! IA", "count 1 = 20", kind + " 20 = " + (kind.equals("law") ? 1 : kind.equals("book") ? -8 : -9),
                    "count 1 = 0", kind + " 1 ! IA", kind + " 0 = " + (kind.equals("law") ? -9 : 0));
            Script.run(c, kind + " of no tape", kind + " 1 ! IA", "count 1 = 0", "fault = -1");
        }
        Script.run(c, "the first bytes alone", "feed 'rest 1;hymm;xxxxxxxx' = 20", "choir 7 = 0", "count 1 = 0",
                "feed 'rest 1;hymm;xxxxxxxx' = 20", "choir 8 = -9", "fault = 7", "count 1 = 0");
        Script.run(c, "two feeds are one tape", "feed 'singer 0 5 9;note 0 ' = 20", "feed '2;note 0 3;' = 40",
                "choir 31 = 1", "told 1 = 2", "note 1 2 = 3");
        Script.run(c, "what was read is not read again", "feed 'rest 1;' = 20", "choir 7 = 0", "choir 7 ! IA",
                "feed 'note 0 1;' = 20", "choir 9 = 0", "told 1 = 1");
    }

    // Promise 2: "of each number the highest first"; "NONE, doing nothing, if there would be more than 600"
    private static void feedHighestByteFirst() {
        // "note", " 5 9", ";not", "e 4 ", "8;  "
        Script.run(c, "highest first", "feed 1852798053 540352569 997093236 1696609312 943398944 = 20", "choir 20 = 0",
                "told 1 = 2", "note 0 0 = 5", "note 0 2 = 9", "note 1 0 = 4", "note 1 2 = 8");
        Script.run(c, "bytes of 255 and of 0 come, too", "feed -1 -1 -1 -1 -1 = 20", "feed 0 0 0 0 0 = 40",
                "choir 40 = -9", "fault = 0", "feed 538976288 538976288 0 -1 -1 = 20", "choir 20 = -9", "fault = 8",
                "feed 538976288 538976288 538976511 MIN MAX = 20", "choir 20 = -9", "fault = 11");
        String[] lines = new String[36];
        for (int k = 0; k < 30; k++) {
            lines[k] = "feed 538976288 538976288 538976288 538976288 538976288 = " + 20 * (k + 1);
        }
        lines[30] = "feed -1 -1 -1 -1 -1 = -1";
        lines[31] = "count 1 = 600";
        lines[32] = "feed MIN MAX 0 1 2 = -1";
        lines[33] = "choir 600 = 0";
        lines[34] = "fault = -1";
        lines[35] = "feed 1 2 3 4 5 = 20";
        Script.run(c, "a full tape", lines);
    }

    // "VOWEL V, 0 to 5, PAY P, 0 to 60, BREATH B, 1 to 30", "LENGTH L, 1 to 9", "NOTE N .. VOWEL V", "rest R .. 0 to 30"
    private static void numbersOfChoir() {
        number("choir", "singer ", 0, 5, " 0 1;");
        number("choir", "singer 0 ", 0, 60, " 1;");
        number("choir", "singer 0 0 ", 1, 30, ";");
        number("choir", "note ", 0, 5, " 1;");
        number("choir", "note 0 ", 1, 9, ";");
        number("choir", "note 0 1;note 0 1;note 0 1;like ", 0, 2, " 0;");
        number("choir", "note 0 1;like 0 ", 0, 5, ";");
        number("choir", "rest ", 0, 30, ";");
    }

    private static void numbersAsTold() {
        Script.run(c, "least and most", "choir 'singer 0 0 1;singer 5 60 30;note 0 1;note 5 9;like 0 5;like 1 0;rest 30;' = 2",
                "singer 0 0 = 0", "singer 0 1 = 0", "singer 0 2 = 1", "singer 0 3 = 1", "singer 1 0 = 5",
                "singer 1 1 = 60", "singer 1 2 = 30", "singer 1 3 = 30", "note 0 1 = 0", "note 0 2 = 1", "note 1 1 = 5",
                "note 1 2 = 9", "like 0 0 = 0", "like 0 1 = 5", "like 1 0 = 1", "like 1 1 = 0", "told 8 = 31");
        Script.run(c, "numbered from 0 on, each kind by itself",
                "choir 'note 1 1;singer 3 7 2;note 2 2;like 1 4;singer 4 8 3;rest 1;like 0 5;note 3 3;' = 2",
                "singer 0 0 = 3", "singer 1 0 = 4", "singer 2 0 ! NS", "note 0 0 = 1", "note 1 0 = 2", "note 2 0 = 3",
                "note 3 0 ! NS", "like 0 0 = 1", "like 0 1 = 4", "like 1 0 = 0", "like 2 0 ! NS");
    }

    // "LIKES likewise, 12: NOTE N, told ahead, may be worded with VOWEL V, too"
    private static void likesOfNotesToldAhead() {
        faulty("choir", "like 0 0;", 2, 5);
        faulty("choir", "like 0 0;note 0 1;", 2, 5);
        faulty("choir", "note 0 1;like 1 0;note 0 1;", 2, 14);
        Script.run(c, "the latest note is told ahead", "choir 'note 0 1;like 0 1;note 0 1;like 1 2;like 0 3;' = 0",
                "words 0 = 11", "words 1 = 5", "told 2 = 3");
        Script.run(c, "the 20th note", "choir '" + times(20, "note 0 1;") + "like 19 5;' = 0", "words 19 = 33",
                "words 18 = 1", "choir '" + times(20, "note 0 1;") + "like 20 5;' = -8 @ 185", "words 19 = 33");
        Script.run(c, "its own vowel, and one told twice", "choir 'note 2 1;like 0 2;like 0 3;like 0 3;' = 0",
                "words 0 = 12", "told 2 = 3", "wordings 63 = 2");
    }

    // "rest" R (what a rest gives back, 0 to 30; 5 without; the last counts)
    private static void restOfAChoir() {
        String tired = "singer 0 1 30;note 0 9;";
        String[][] rests = {{"", "17"}, {"rest 0;", "12"}, {"rest 1;", "13"}, {"rest 17;", "29"}, {"rest 18;", "30"},
            {"rest 19;", "30"}, {"rest 30;", "30"}, {"rest 9;rest 2;", "14"}, {"rest 2;rest 9;", "21"},
            {"rest 2;rest 0;", "12"}};
        for (String[] row : rests) {
            Script.run(c, "behind '" + row[0] + "'", "choir '" + tired + row[0] + "' = 1",
                    "work 'hymn;hymn;rest;' = 3", "singer 0 3 = " + row[1]);
            Script.run(c, "ahead '" + row[0] + "'", "choir '" + row[0] + tired + "' = 1",
                    "work 'hymn;hymn;rest;' = 3", "singer 0 3 = " + row[1]);
        }
        Script.run(c, "an earlier choir's does not count", "choir 'rest 1;' = 0", "choir '" + tired + "' = 1",
                "work 'hymn;rest;' = 2", "singer 0 3 = 26");
        Script.run(c, "a faulty one's does not count", "choir '" + tired + "rest 1;' = 1",
                "choir '" + tired + "rest 9;x' = -9 @ 30", "work 'hymn;rest;' = 2", "singer 0 3 = 22");
    }

    // "{ CLAUSE ";" }, at most 60"; "3 a CLAUSE .. too many (at its word)"
    private static void clausesAtMost() {
        String sixty = times(6, "singer 0 1 9;") + times(19, "note 0 1;") + times(11, "like 0 5;") + times(24, "rest 7;");
        int bytes = sixty.length();
        Script.run(c, "60 of all kinds", "choir '" + sixty + "' = 6", "told 1 = 19", "told 2 = 11");
        for (String more : new String[] {"singer 0 1 9;", "note 0 1;", "like 0 5;", "rest 7;"}) {
            Script.run(c, "61: " + more, "choir '" + sixty + more + "' = -7 @ " + bytes, "told 0 = 0", "told 1 = 0");
            Script.run(c, "61, behind a blank: " + more, "choir '" + sixty + " " + more + "' = -7 @ " + (bytes + 1));
            String fewer = sixty.substring(0, bytes - 7);
            Script.run(c, "60: " + more, "choir '" + fewer + more + "' = " + (more.startsWith("singer") ? 7 : 6));
        }
        Script.run(c, "60 and blanks", "choir '" + sixty + "   ' = 6");
        Script.run(c, "61 rests", "choir '" + times(61, "rest 7;") + "' = -7 @ 420",
                "choir '" + times(60, "rest 7;") + "' = 0");
    }

    // "SINGERS .. 7 at most", "NOTES .. 20", "LIKES likewise, 12"
    private static void singersNotesLikesAtMost() {
        Script.run(c, "7, 20 and 12", "choir '" + FULL + "' = 7", "told 0 = 7", "told 1 = 20", "told 2 = 12",
                "singer 6 2 = 9", "note 19 2 = 1", "like 11 1 = 5", "singer 7 2 ! NS", "note 20 2 ! NS", "like 12 1 ! NS");
        int bytes = FULL.length();
        Script.run(c, "the 8th singer", "choir '" + FULL + "singer 0 1 9;' = -7 @ " + bytes, "told 0 = 0");
        Script.run(c, "the 21st note", "choir '" + FULL + "  note 0 1;' = -7 @ " + (bytes + 2), "told 1 = 0");
        Script.run(c, "the 13th like", "choir '" + FULL + "rest 1;like 0 0;' = -7 @ " + (bytes + 7), "told 2 = 0");
        Script.run(c, "too many, though what follows is faulty", "choir '" + FULL + "singer 6' = -7 @ " + bytes,
                "choir '" + FULL + "note' = -7 @ " + bytes, "choir '" + FULL + "like;' = -7 @ " + bytes);
        Script.run(c, "a rest is none of these", "choir '" + FULL + "rest 30;' = 7");
    }

    // "U: N (0 to 999)"
    private static void numbersOfLaw() {
        number("law", "", 0, 999, "");
        number("law", "1+", 0, 999, "-1");
        number("law", "(", 0, 999, ")");
        number("law", "least[1,", 0, 999, "]");
        number("law", "most[", 0, 999, ",1]");
        number("law", "length/", 0, 999, "%5");
    }

    // "sing" N, "hoarse" S, "cure" S, "word" N V (V 0 to 5), "again" N .. (N 0 to 60)
    private static void numbersOfWork() {
        number("work", "sing ", 0, 2, ";");
        number("work", "hoarse ", 0, 1, ";");
        number("work", "cure ", 0, 1, ";");
        number("work", "word ", 0, 2, " 0;");
        number("work", "word 0 ", 0, 5, ";");
        number("work", "again ", 0, 60, " [];");
        number("work", "again 2[sing ", 0, 2, ";];");
        Script.run(c, "the last ones of a full choir", "choir '" + FULL + "' = 7",
                "work 'sing 19;word 19 5;hoarse 6;cure 6;' = 4", "work 'sing 20;' = -8 @ 5", "work 'word 20 5;' = -8 @ 5",
                "work 'hoarse 7;' = -8 @ 7", "work 'cure 7;' = -8 @ 5");
        Script.run(c, "there are none", "work 'sing 0;' = -8 @ 5", "work 'word 0 0;' = -8 @ 5",
                "work 'hoarse 0;' = -8 @ 7", "work 'cure 0;' = -8 @ 5", "work 'again 0 [sing 0;];' = -8 @ 14",
                "count 2 = 0");
        Script.run(c, "as many as there are by now", "choir '" + FULL + "' = 7", "choir '" + SOME + "' = 2",
                "work 'sing 3;' = -8 @ 5", "work 'hoarse 2;' = -8 @ 7", "work 'sing 2;hoarse 1;' = 2");
    }

    // "NOTE N was heard (H 1) or not (0)"
    private static void numbersOfBook() {
        number("book", "", 0, 2, " 1;");
        number("book", "0 ", 0, 1, ";");
        number("book", "2 0;", 0, 1, " 0;");
        Script.run(c, "the last one of a full choir", "choir '" + FULL + "' = 7", "book '19 1;' = 1",
                "book '20 1;' = -8 @ 0", "told 9 = 1");
        Script.run(c, "there are none", "book '0 1;' = -8 @ 0", "book '' = 0");
    }

    // "no N twice"; "2 .. (an N twice in a BOOK)"
    private static void noteTwiceInABook() {
        faulty("book", "0 0;0 0;", 2, 4);
        faulty("book", "0 0;0 1;", 2, 4);
        faulty("book", "1 1;2 0; 1 1;", 2, 9);
        faulty("book", "2 1;002", 2, 4);
        faulty("book", "0 0;1 0;2 0;2", 2, 12);
        fine("book", "2 0;1 1;0 0;", 3);
        Script.run(c, "twice in two books", "choir '" + SOME + "' = 2", "book '0 1;' = 1", "book '0 0;' = 1",
                "book '0 1;0 1;' = -8 @ 4", "told 9 = 1", "book '0 1;' = 1", "book '' = 0", "told 9 = 0");
        Script.run(c, "the 20th twice", "choir '" + FULL + "' = 7", "book '19 1;19 1;' = -8 @ 5");
    }

    // "Numbers: digits, as many as stand there; WORDS: small letters, as many as stand there"
    private static void digitsAndLettersAsManyAsStandThere() {
        fine("choir", "rest " + times(590, "0") + "5;", 0);
        faulty("choir", "rest " + times(590, "9") + ";", 2, 5);
        faulty("choir", "rest 1" + times(589, "0") + ";", 2, 5);
        fine("law", times(147, "0") + "999", 1);
        faulty("law", times(146, "0") + "1000", 2, 0);
        faulty("law", times(150, "9"), 2, 0);
        faulty("choir", "singer 05 1;", 1, 11);
        faulty("choir", "restrest 1;", 1, 0);
        faulty("choir", "res", 1, 0);
        faulty("choir", "singernote 0 1;", 1, 0);
        faulty("choir", times(600, "a"), 1, 0);
        faulty("work", "hymnhymn;", 1, 0);
        faulty("work", "singing 0;", 1, 0);
        faulty("work", "sin g 0;", 1, 0);
        faulty("work", times(150, "z"), 1, 0);
        faulty("law", "lengthlength", 1, 0);
        faulty("law", "len gth", 1, 0);
        faulty("law", "leastmost[1,2]", 1, 0);
        fine("law", "length*2", 1);
        faulty("law", "12 3", 1, 3);
        faulty("choir", "rest 1 2;", 1, 7);
        fine("choir", "singer0 1 2;note3 4;like0 5;rest6;", 1);
        fine("work", "sing0;hoarse0;cure0;word1 0;again2[];", 4);
        // What lies just outside of digits and of small letters, and capitals.
        for (char sign : new char[] {'/', ':', '`', '{', 'A', 'Z', 0, 9, 10, 13, 31, 33, 127, 128, 160, 176, 225, 255}) {
            faulty("choir", "rest 1" + sign + ";", 1, 6);
            faulty("choir", "rest" + sign + "1;", 1, 4);
            faulty("choir", "rest 1;" + sign, 1, 7);
            faulty("work", "hymn" + sign + ";", 1, 4);
            faulty("work", "hymn;" + sign, 1, 5);
            faulty("book", "0 1" + sign + ";", 1, 3);
            if (sign != '/') {
                faulty("law", "1" + sign, 1, 1);
            }
        }
        // The first and the last of small letters belong to the word; so do the first and the last digit to a number.
        for (char letter : new char[] {'a', 'z'}) {
            faulty("choir", "rest" + letter + " 1;", 1, 0);
            faulty("work", "hymn" + letter + ";", 1, 0);
            faulty("law", "length" + letter, 1, 0);
            faulty("choir", letter + "rest 1;", 1, 0);
        }
        faulty("choir", "rest 40;", 2, 5);
        faulty("choir", "rest 49;", 2, 5);
        faulty("choir", "rest 09 9;", 1, 8);
        faulty("choir", "Rest 1;", 1, 0);
        faulty("choir", "reSt 1;", 1, 0);
        faulty("choir", "resT 1;", 1, 0);
    }

    // "blanks (32) may stand ahead of all these, and at the end"
    private static void blanks() {
        fine("choir", "", 0);
        fine("choir", times(600, " "), 0);
        fine("choir", "  singer   1 2   3  ;  note  4 5 ; like 0 1 ; rest 2 ;  ", 1);
        fine("law", "   (  1  +  2 )  *  least  [ 3 , most [ 4 , 5 ] ]   ", 1);
        fine("work", "   hymn  ;  again  2  [  hymn ; ]  ;  ", 3);
        fine("work", "     ", 0);
        fine("book", "  0   1  ;  2  0  ;  ", 2);
        fine("book", "   ", 0);
        faulty("law", "     ", 1, 5);
        faulty("choir", "   x", 1, 3);
        faulty("choir", "  singer   6 2 3;", 2, 11);
        faulty("work", "  hymn   x", 1, 9);
        faulty("law", "  1   2", 1, 6);
        faulty("book", "  0   2;", 2, 6);
        faulty("choir", "rest 1  ", 1, 8);
    }

    // "1 what can't stand there"
    private static void signsThatCantStand() {
        faulty("choir", ";", 1, 0);
        faulty("choir", "rest 1;;", 1, 7);
        faulty("choir", "1;", 1, 0);
        faulty("choir", "rest;", 1, 4);
        faulty("choir", "singer 1 2;", 1, 10);
        faulty("choir", "singer 1 2 3 4;", 1, 13);
        faulty("choir", "note 1;", 1, 6);
        faulty("choir", "note 1 2 3;", 1, 9);
        faulty("choir", "note 0 1;like 0;", 1, 15);
        faulty("choir", "note 0 1;like 0 1 2;", 1, 18);
        faulty("choir", "rest 1 rest 1;", 1, 7);
        faulty("choir", "hymn;", 1, 0);
        faulty("choir", "sing 0;", 1, 0);
        faulty("work", "singer 0;", 1, 0);
        faulty("work", "note 0;", 1, 0);
        faulty("work", "like 0;", 1, 0);
        faulty("law", "rest", 1, 0);
        faulty("law", "breath", 1, 0);
        faulty("book", "note 0 1;", 1, 0);
        faulty("book", ";", 1, 0);
        faulty("book", "0 1;;", 1, 4);
        faulty("book", "0;", 1, 1);
        faulty("book", "0 1 1;", 1, 4);
        faulty("book", "0 x;", 1, 2);
    }

    /** All that the text could end with too early: within a word at the word, else at the length. */
    private static void prefixes(String kind, String text, boolean whole) {
        for (int n = 1; n < text.length(); n++) {
            String part = text.substring(0, n);
            int word = n;
            while (word > 0 && Character.isLetter(text.charAt(word - 1))) {
                word--;
            }
            boolean within = word < n && Character.isLetter(text.charAt(n));
            if (whole || text.charAt(n - 1) != ';') {
                faulty(kind, part, 1, within ? word : n);
                faulty(kind, part + "  ", 1, within ? word : n + 2);
            }
        }
    }

    // "(at the length, if the text ends too early)"
    private static void endsTooEarly() {
        prefixes("choir", "singer 0 5 9;", true);
        prefixes("choir", "note 5 9;", true);
        prefixes("choir", "rest 30;", true);
        prefixes("choir", "note 0 1;like 0 5;", false);
        prefixes("law", "least[length,(3+pay)*most[day,sung]]", true);
        prefixes("law", "(left-note)", true);
        prefixes("work", "sing 2;", true);
        prefixes("work", "hymn;", true);
        prefixes("work", "rest;", true);
        prefixes("work", "hoarse 1;", true);
        prefixes("work", "cure 1;", true);
        prefixes("work", "word 1 2;", true);
        prefixes("work", "day;", true);
        prefixes("work", "again 6[sing 2;again 2[day;];];", true);
        prefixes("book", "2 1;", true);
        faulty("law", "", 1, 0);
        faulty("law", "1+", 1, 2);
        faulty("law", "1-", 1, 2);
        faulty("law", "1*", 1, 2);
        faulty("law", "1/", 1, 2);
        faulty("law", "1%  ", 1, 4);
    }

    // "FAULTS, the first from the left, at its first byte"
    private static void firstFromTheLeft() {
        faulty("choir", "rest 31;x", 2, 5);
        faulty("choir", "x;rest 31;", 1, 0);
        faulty("choir", "rest 1,rest 31;", 1, 6);
        faulty("choir", "singer 9 99 99;", 2, 7);
        faulty("choir", "singer 5 99 99;", 2, 9);
        faulty("choir", "rest 99;" + FULL + "singer 0 0 1;", 2, 5);
        faulty("choir", FULL + "singer 0 0 1;rest 99;", 3, FULL.length());
        faulty("choir", "singer 6", 2, 7);
        faulty("law", "1000+", 2, 0);
        faulty("law", "+1000", 1, 0);
        faulty("law", "1000+(((((((", 2, 0);
        faulty("law", "(((((((1000", 3, 6);
        faulty("law", "((((((1000(", 2, 6);
        faulty("work", "sing 9;hymm;", 2, 5);
        faulty("work", "hymm;sing 9;", 1, 0);
        faulty("work", "word 9 9;", 2, 5);
        faulty("work", "word 0 9", 2, 7);
        faulty("work", "again 61 x", 2, 6);
        faulty("book", "9 9;", 2, 0);
        faulty("book", "0 9;0 0;", 2, 2);
        faulty("book", "0 1;0", 2, 4);
    }

    // "of one the least": at one place 1 comes ahead of 3
    private static void ofOneTheLeast() {
        String sixty = times(60, "rest 7;");
        faulty("choir", sixty + "x", 1, 420);
        faulty("choir", sixty + "rests 7;", 1, 420);
        faulty("choir", sixty + ";", 1, 420);
        faulty("choir", sixty + "7", 1, 420);
        faulty("choir", sixty + "rest", 3, 420);
        faulty("choir", sixty + "rest 99;", 3, 420);
        faulty("law", "((((((lease[1,2]", 1, 6);
        faulty("law", "((((((mosts[1,2]", 1, 6);
        faulty("law", "((((((+", 1, 6);
        faulty("work", times(6, "again 1[") + "agains 1[", 1, 48);
        faulty("work", times(6, "again 1[") + "[", 1, 48);
    }

    // "a 7th of ( least most again that is open at one time"
    private static void openAtOneTime() {
        fine("law", times(6, "(") + "1" + times(6, ")"), 1);
        faulty("law", times(7, "(") + "1" + times(7, ")"), 3, 6);
        faulty("law", times(6, " (") + "  (1", 3, 14);
        fine("law", times(6, "least[1,") + "2" + times(6, "]"), 1);
        fine("law", times(6, "most[") + "2" + times(6, ",1]"), 1);
        faulty("law", times(6, "least[1,") + "least[1,2]" + times(6, "]"), 3, 48);
        faulty("law", times(6, "least[1,") + "most[1,2]" + times(6, "]"), 3, 48);
        faulty("law", times(6, "most[") + "(1)" + times(6, ",1]"), 3, 30);
        faulty("law", times(6, "most[") + "most[1,2]" + times(6, ",1]"), 3, 30);
        faulty("law", "(least[1,(most[(least[1,(2)],3])])", 3, 24);
        fine("law", "(least[1,(most[(least[1,2]),3])])", 1);
        // Not open any more: as many as one likes, one behind the other.
        fine("law", times(6, "(") + "1" + times(6, ")") + "+" + times(6, "(") + "1" + times(6, ")"), 1);
        fine("law", "least[" + times(5, "(") + "1" + times(5, ")") + "," + times(5, "(") + "1" + times(5, ")") + "]", 1);
        faulty("law", "least[1," + times(6, "(") + "1" + times(6, ")") + "]", 3, 13);
        fine("law", times(5, "(") + "(1)+(2)*(3)-least[1,2]" + times(5, ")"), 1);
        faulty("law", times(5, "(") + "(1)+((2))" + times(5, ")"), 3, 10);
        fine("law", "(1)+(2)+(3)+(4)+(5)+(6)+(7)+(8)", 1);
        fine("work", times(6, "again 1[") + "hymn;" + times(6, "];"), 1);
        faulty("work", times(7, "again 1[") + "hymn;" + times(7, "];"), 3, 48);
        faulty("work", times(6, "again 0[") + " again 0[];" + times(6, "];"), 3, 49);
        faulty("work", times(6, "again 1[") + "hymn;again 1[];" + times(6, "];"), 3, 53);
        fine("work", times(6, "again 1[") + times(6, "];") + times(6, "again 1[") + "hymn;" + times(6, "];"), 1);
        fine("work", times(5, "again 1[") + "again 1[hymn;];again 1[hymn;];" + times(5, "];"), 2);
        fine("work", times(8, "again 1[hymn;];"), 8);
        // "the first from the left": the 7th stands ahead of what is wrong behind its word.
        faulty("law", times(6, "(") + "least", 3, 6);
        faulty("law", times(6, "(") + "most(1", 3, 6);
        faulty("work", times(6, "again 1[") + "again", 3, 48);
        faulty("work", times(6, "again 1[") + "again;", 3, 48);
        faulty("work", times(6, "again 1[") + " again 61[", 3, 49);
        // A longer word is another one, and can't stand there however many are open.
        faulty("law", times(6, "(") + "leasts[1,2]", 1, 6);
        faulty("work", times(6, "again 1[") + "agains 1[", 1, 48);
    }

    // "E, at the end nothing more"; "E: T { + or - T }. T: U { * or / or % U }"
    private static void grammarOfLaw() {
        fine("law", "length", 1);
        faulty("law", "length;", 1, 6);
        faulty("law", "length length", 1, 7);
        faulty("law", "length)", 1, 6);
        faulty("law", "length]", 1, 6);
        faulty("law", "length,1", 1, 6);
        faulty("law", "1(2)", 1, 1);
        faulty("law", "(1)(2)", 1, 3);
        faulty("law", "-1", 1, 0);
        faulty("law", "1--1", 1, 2);
        faulty("law", "1**2", 1, 2);
        faulty("law", "1+*2", 1, 2);
        faulty("law", "1/%2", 1, 2);
        faulty("law", "1^2", 1, 1);
        faulty("law", "()", 1, 1);
        faulty("law", "(1]", 1, 2);
        faulty("law", "[1]", 1, 0);
        faulty("law", "least(1,2)", 1, 5);
        faulty("law", "least 1,2", 1, 6);
        faulty("law", "least[1]", 1, 7);
        faulty("law", "least[1,2,3]", 1, 9);
        faulty("law", "least[1;2]", 1, 7);
        faulty("law", "most[,1]", 1, 5);
        faulty("law", "most[1,]", 1, 7);
        faulty("law", "most[1,2)", 1, 8);
        for (String fact : new String[] {"length", "pay", "left", "sung", "note", "vowel", "day", "singer"}) {
            fine("law", fact, 1);
            faulty("law", fact + "s", 1, 0);
            faulty("law", fact.substring(1), 1, 0);
        }
    }

    // "{ STEP ";" }"; "again" N "[" { STEP ";" } "]"
    private static void grammarOfWork() {
        fine("work", "again 1[];", 0);
        faulty("work", "again 1[]", 1, 9);
        faulty("work", "again 1[;];", 1, 8);
        faulty("work", "again 1[hymn];", 1, 12);
        faulty("work", "again 1 hymn;", 1, 8);
        faulty("work", "again 1 (hymn;);", 1, 8);
        faulty("work", "again 1[hymn;);", 1, 13);
        faulty("work", "again[hymn;];", 1, 5);
        faulty("work", "again 1[]];", 1, 9);
        faulty("work", "];", 1, 0);
        faulty("work", "hymn;];", 1, 5);
        faulty("work", "hymn;]", 1, 5);
        faulty("work", "hymn hymn;", 1, 5);
        faulty("work", "hymn 1;", 1, 5);
        faulty("work", "rest 1;", 1, 5);
        faulty("work", "day 1;", 1, 4);
        faulty("work", "sing;", 1, 4);
        faulty("work", "sing 0 1;", 1, 7);
        faulty("work", "hoarse;", 1, 6);
        faulty("work", "hoarse 0 1;", 1, 9);
        faulty("work", "cure;", 1, 4);
        faulty("work", "word 0;", 1, 6);
        faulty("work", "word 0 0 0;", 1, 9);
        faulty("work", "again 1 1[];", 1, 8);
        faulty("work", "hymn,hymn;", 1, 4);
        faulty("work", ";", 1, 0);
        faulty("work", "0;", 1, 0);
    }
}
