/** Promises 5 and 8: what the STEPS do, which are REFUSED, how many are begun; WORKS undone. */
public final class WorkTest {
    private static final Checks c = new Checks("WorkTest");
    static final String CHOIR = "singer 0 5 6;singer 1 9 4;singer 0 3 9;singer 2 9 2;note 0 3;note 1 2;note 0 4;"
            + "note 2 2;note 1 3;note 0 2;like 1 0;like 4 2;like 4 1;rest 2;";

    public static void main(String[] args) {
        sing();
        hymn();
        rest();
        hoarseAndCure();
        word();
        day();
        owedAtMost();
        lastDay();
        again();
        begunAtMost();
        lawSeesWhatIsNow();
        undo();
        c.end();
    }

    private static void singers(VowelChoir x, String when, int what, int... due) {
        for (int i = 0; i < due.length; i++) {
            c.same("singer(" + i + ", " + what + ") " + when, x.singer(i, what), due[i]);
        }
    }

    private static void works(VowelChoir x, String work, int done, int refused) {
        c.same("work " + work, Checks.work(x, work), done);
        c.same("refused by " + work, x.told(10), refused);
    }

    private static void sing() {
        VowelChoir x = Checks.told(CHOIR);
        works(x, "sing 0;", 1, 0);
        singers(x, "behind sing 0", 3, 3, 4, 9, 2);
        singers(x, "behind sing 0", 5, 1, 0, 0, 0);
        singers(x, "behind sing 0", 7, 1, 0, 0, 0);
        c.same("sung", x.told(6), 1);
        // Singer 0 has 3 left, too few for note 2: the next of its vowel sings it.
        works(x, "sing 2;sing 5;sing 5;", 3, 0);
        singers(x, "behind", 3, 1, 4, 3, 2);
        works(x, "sing 3;sing 3;", 1, 1);
        c.same("a refused sing drops nothing", x.told(5), 0);
        c.same("sung", x.told(6), 5);
        VowelChoir y = Checks.told("singer 0 5 6;note 1 1;");
        works(y, "sing 0;", 0, 1);
    }

    private static void hymn() {
        VowelChoir x = Checks.told(CHOIR);
        works(x, "hymn;", 1, 0);
        singers(x, "behind hymn", 3, 1, 2, 5, 0);
        singers(x, "behind hymn", 5, 2, 1, 1, 1);
        c.same("dropped", x.told(5), 1);
        c.same("sung", x.told(6), 5);
        VowelChoir y = Checks.told("note 0 1;note 1 1;");
        works(y, "hymn;hymn;", 2, 0);
        c.same("all dropped", y.told(5), 4);
        VowelChoir z = Checks.told("singer 0 5 6;");
        works(z, "hymn;", 1, 0);
        c.same("none dropped", z.told(5), 0);
    }

    private static void rest() {
        VowelChoir x = Checks.told(CHOIR);
        works(x, "rest;", 0, 1);
        works(x, "hymn;rest;", 2, 0);
        singers(x, "behind rest", 3, 3, 4, 7, 2);
        works(x, "hoarse 0;rest;rest;rest;", 3, 1);
        singers(x, "behind rests, hoarse or not", 3, 6, 4, 9, 2);
        VowelChoir y = Checks.told("singer 0 5 6;note 0 1;rest 9;rest 0;");
        works(y, "hymn;rest;", 2, 0);
        c.same("a rest that gives nothing back is done", y.singer(0, 3), 5);
        VowelChoir z = new VowelChoir();
        works(z, "rest;", 0, 1);
    }

    private static void hoarseAndCure() {
        VowelChoir x = Checks.told(CHOIR);
        works(x, "cure 0;hoarse 0;hoarse 0;hoarse 3;", 2, 2);
        c.same("hoarse", x.told(4), 9);
        works(x, "sing 0;", 1, 0);
        singers(x, "the hoarse do not sing", 5, 0, 0, 1, 0);
        works(x, "cure 3;cure 3;cure 0;day;", 3, 1);
        c.same("cured", x.told(4), 0);
        works(x, "hoarse 1;day;", 2, 0);
        c.same("a day cures none", x.told(4), 2);
    }

    private static void word() {
        VowelChoir x = Checks.told(CHOIR);
        works(x, "word 4 1;word 4 0;word 4 2;word 4 2;", 1, 3);
        c.same("worded anew", x.told(11), 16);
        c.same("vowel by now", x.note(4, 0), 2);
        c.same("vowel as told", x.note(4, 1), 1);
        works(x, "word 1 0;word 0 1;word 4 1;", 2, 1);
        c.same("worded anew", x.told(11), 2);
        works(x, "day;", 1, 0);
        c.same("a day leaves it", x.told(11), 2);
        VowelChoir y = Checks.told("note 3 1;like 0 5;");
        works(y, "word 0 5;", 1, 0);
        c.same("the first note", y.told(11), 1);
    }

    private static void day() {
        VowelChoir x = Checks.told(CHOIR);
        works(x, "sing 0;sing 0;hoarse 0;day;", 4, 0);
        c.same("day", x.told(3), 1);
        singers(x, "owed once a day", 6, 5, 0, 0, 0);
        singers(x, "breath", 3, 6, 4, 9, 2);
        singers(x, "sang this day", 7, 0, 0, 0, 0);
        singers(x, "sang", 5, 2, 0, 0, 0);
        works(x, "day;hymn;day;", 3, 0);
        c.same("day", x.told(3), 3);
        singers(x, "owed", 6, 5, 9, 3, 9);
    }

    private static void owedAtMost() {
        VowelChoir x = Checks.told("singer 0 60 1;singer 1 59 1;note 0 1;");
        // 199 steps behind the again: 100 hymns and 99 days.
        works(x, "again 60 [hymn;day;hymn;day;];", 199, 0);
        c.same("99 days", x.singer(0, 6), 99 * 60);
        c.same("together", x.told(7), 99 * 60);
        works(x, "again 60 [hymn;day;hymn;day;];", 199, 0);
        c.same("198 days would be 11,880", x.singer(0, 6), 9999);
        c.same("who sang nothing is owed nothing", x.singer(1, 6), 0);
        c.same("together", x.told(7), 9999);
        c.same("a sunday keeps to it", x.sunday(1, 5, 0, 2), 9999);
    }

    private static void lastDay() {
        VowelChoir x = Checks.told("singer 0 1 9;note 0 1;");
        works(x, "again 60 [day;day;day;];", 180, 0);
        works(x, "again 60 [day;day;day;];", 180, 0);
        works(x, "again 39 [day;];", 39, 0);
        works(x, "sing 0;day;sing 0;day;day;", 3, 2);
        c.same("day", x.told(3), 400);
        c.same("owed", x.told(7), 1);
        c.same("a refused day gives nothing back", x.singer(0, 3), 8);
        c.same("nor does it forget", x.singer(0, 7), 1);
        // Owed by now, for this day, and for the second of two: on the first one the singer turns hoarse.
        c.same("a sunday goes beyond", x.sunday(1, 2, 0, 2), 1 + 1 + 1);
    }

    private static void again() {
        VowelChoir x = Checks.told("singer 0 1 30;note 0 1;");
        works(x, "again 3 [sing 0;again 2 [sing 0;];];sing 0;", 10, 0);
        c.same("sung", x.told(6), 10);
        works(x, "again 0 [day;];again 5 [];", 0, 0);
        works(x, "again 2 [again 0 [day;];hoarse 0;cure 0;cure 0;];", 4, 2);
    }

    private static void begunAtMost() {
        VowelChoir x = Checks.told("singer 0 1 30;note 0 1;");
        works(x, "again 60 [hymn;hymn;hymn;hymn;];", 199, 0);
        c.same("sung", x.told(6), 30);
        works(x, "again 20 [again 20 [cure 0;];];", 0, 200 - 1 - 10);
        works(x, "again 60 [again 60 [again 60 [again 60 [again 60 [again 60 [];];];];];];day;", 0, 0);
        c.same("no day: what would come behind is left out", x.told(3), 0);
        works(x, "again 60 [again 1 [];again 1 [];again 1 [];];again 17 [again 0 [];];day;day;day;", 1, 0);
        c.same("a day: the 200th step", x.told(3), 1);
    }

    private static void lawSeesWhatIsNow() {
        VowelChoir x = Checks.told("singer 0 7 30;singer 1 2 20;note 0 3;note 1 4;like 0 1;");
        Checks.law(x, "sung*2+1");
        Checks.work(x, "sing 0;sing 0;sing 0;");
        c.same("1, 3, 5", x.singer(0, 3), 21);
        Checks.law(x, "left/2");
        Checks.work(x, "sing 0;sing 0;");
        c.same("21, 11, 6", x.singer(0, 3), 6);
        Checks.law(x, "day*10+note");
        c.same("note", x.takes(1, 1), 1);
        Checks.work(x, "day;");
        c.same("day", x.takes(1, 1), 11);
        Checks.law(x, "vowel*9+singer");
        c.same("vowel", x.takes(0, 1), 1);
        Checks.work(x, "word 0 1;");
        c.same("vowel by now", x.takes(0, 1), 10);
        Checks.law(x, "pay+length");
        c.same("of a singer of another vowel", x.takes(1, 0), 11);
        Checks.law(x, "30");
        Checks.work(x, "sing 1;");
        c.same("too much", x.told(10), 1);
    }

    private static void undo() {
        VowelChoir x = Checks.told(CHOIR);
        c.same("undo nothing", x.undo(), -1);
        Checks.work(x, "word 4 2;hymn;rest;hoarse 0;hoarse 0;sing 0;");
        Checks.law(x, "1");
        Checks.book(x, "0 1;");
        int[] first = new int[12];
        for (int what = 0; what < 12; what++) {
            first[what] = x.told(what);
        }
        int[] left = {x.singer(0, 3), x.singer(1, 3), x.singer(2, 3), x.singer(3, 3)};
        int[] today = {x.singer(0, 7), x.singer(1, 7), x.singer(2, 7), x.singer(3, 7)};
        Checks.work(x, "hymn;day;hymn;cure 0;word 4 1;cure 0;");
        Checks.work(x, "");
        c.same("works", x.count(2), 3);
        c.same("undo of a work without steps", x.undo(), 2);
        Checks.work(x, "cure 3;cure 3;");
        c.same("refused", x.told(10), 2);
        c.same("undo of a work that did nothing", x.undo(), 2);
        c.same("refused behind undo", x.told(10), 0);
        c.same("undo", x.undo(), 1);
        for (int what = 0; what < 12; what++) {
            c.same("told behind undo " + what, x.told(what), what == 10 ? 0 : first[what]);
        }
        singers(x, "behind undo", 3, left);
        singers(x, "behind undo", 7, today);
        c.same("the law stays", x.takes(0, 0), 1);
        c.same("the book stays", x.told(9), 1);
        c.same("undo", x.undo(), 0);
        c.same("nothing sung", x.told(6), 0);
        c.same("none dropped", x.told(5), 0);
        c.same("none hoarse", x.told(4), 0);
        c.same("as told", x.told(11), 0);
        c.same("undo no more", x.undo(), -1);
        for (int k = 0; k < 16; k++) {
            Checks.work(x, "day;");
        }
        for (int k = 15; k >= 0; k--) {
            c.same("undo", x.undo(), k);
            c.same("day", x.told(3), k);
        }
    }
}
