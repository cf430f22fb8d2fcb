/** Promises 16 to 23: CAST, HANDED, BENCH, WORDING, WORDINGS, WHO, LISTEN. */
public final class BestTest {
    private static final Checks c = new Checks("BestTest");

    public static void main(String[] args) {
        cast();
        castAsNow();
        handed();
        bench();
        benchAlike();
        benchedAtOnce();
        wording();
        wordings();
        who();
        listen();
        c.end();
    }

    private static void cast() {
        c.same("a note is dropped in any case", Checks.told(WorkTest.CHOIR).cast(), -1);
        c.same("no notes", Checks.told("singer 0 1 1;").cast(), 0);
        c.same("nobody", Checks.told("note 0 1;").cast(), -1);
        c.same("nothing at all", new VowelChoir().cast(), 0);
        String three = "note 0 5;note 0 5;note 0 5;";
        c.same("one is fewer than two cheap ones",
                Checks.told("singer 0 1 5;singer 0 1 10;singer 0 60 15;" + three).cast(), 4);
        c.same("of as few the least pay",
                Checks.told("singer 0 9 15;singer 0 8 15;singer 0 8 15;singer 0 9 30;" + three).cast(), 2);
        c.same("two of three: 5 and 10",
                Checks.told("singer 0 9 5;singer 0 5 5;singer 0 9 10;" + three).cast(), 6);
        c.same("of alike ones the least bits",
                Checks.told("singer 0 5 5;singer 0 5 5;singer 0 5 10;singer 0 5 10;" + three).cast(), 5);
        c.same("one of each vowel",
                Checks.told("singer 0 5 5;singer 1 5 5;singer 2 5 5;note 0 5;note 2 5;").cast(), 5);
    }

    private static void castAsNow() {
        VowelChoir x = Checks.told("singer 0 5 9;singer 1 5 9;note 0 3;note 0 3;note 1 9;like 2 0;");
        c.same("cast", x.cast(), 3);
        Checks.work(x, "hymn;hoarse 0;hoarse 1;");
        c.same("hoarse or not, with all their breath", x.cast(), 3);
        Checks.work(x, "word 2 0;");
        c.same("as worded now", x.cast(), -1);
        Checks.law(x, "sung-1");
        c.same("by what was sung: 1, 2, 3", x.cast(), 1);
        Checks.law(x, "day*9");
        c.same("on day 0", x.cast(), 1);
        Checks.work(x, "day;");
        c.same("on day 1", x.cast(), -1);
    }

    private static void handed() {
        VowelChoir x = Checks.told("singer 0 1 1;note 0 1;note 1 1;note 0 1;note 2 1;note 2 1;note 1 1;note 5 1;like 6 1;");
        c.same("0 and 1", x.handed(0, 1), 2);
        c.same("1 and 0", x.handed(1, 0), 2);
        c.same("0 and 2", x.handed(0, 2), 1);
        c.same("2 and 1", x.handed(2, 1), 1);
        c.same("1 and 5", x.handed(1, 5), 1);
        c.same("2 and 2", x.handed(2, 2), 0);
        c.same("3 and 4", x.handed(3, 4), 0);
        Checks.work(x, "word 6 1;");
        c.same("as worded now", x.handed(1, 5), 0);
        for (int v : new int[] {-1, 6}) {
            c.refuses(x, "handed", () -> x.handed(v, 0));
            c.refuses(x, "handed", () -> x.handed(0, v));
        }
    }

    private static void order(String name, VowelChoir x, int most, int... due) {
        c.same("bench of " + name, x.bench(), most);
        for (int k = 0; k < due.length; k++) {
            c.same("benched(" + k + ") of " + name, x.benched(k), due[k]);
        }
        c.same("no more of " + name, x.benched(due.length), -1);
        c.same("far more of " + name, x.benched(Integer.MAX_VALUE), -1);
        c.refuses(x, "benched(-1)", () -> x.benched(-1));
    }

    private static void bench() {
        order("nobody", new VowelChoir(), 0);
        order("one", Checks.told("singer 3 1 1;note 0 1;note 3 1;"), 0, 0);
        order("the choir", Checks.told(WorkTest.CHOIR), 7, 0, 1, 2, 3);
        // From 0 to 1 it is handed on once, from 1 to 2 twice, from 0 to 2 never.
        VowelChoir x = Checks.told("singer 0 1 1;singer 0 1 1;singer 2 1 1;singer 1 1 1;note 0 1;note 1 1;note 2 1;note 1 1;"
                + "like 3 0;");
        order("four", x, 3, 0, 1, 3, 2);
        Checks.work(x, "word 3 0;");
        order("four, worded anew: each of 0 1, 1 2, 2 0 once", x, 3, 0, 2, 1, 3);
    }

    private static void benchAlike() {
        String seven = "singer 0 1 1;singer 1 1 1;singer 2 1 1;singer 3 1 1;singer 4 1 1;singer 5 1 1;singer 0 1 1;";
        order("seven without notes", Checks.told(seven), 0, 0, 1, 2, 3, 4, 5, 6);
        order("seven", Checks.told(seven + "note 5 1;note 0 1;note 4 1;note 1 1;note 3 1;note 2 1;"), 6, 0, 5, 6, 4, 1, 3, 2);
    }

    private static void benchedAtOnce() {
        String three = "singer 1 1 1;singer 0 1 1;singer 2 1 1;note 0 1;note 1 1;note 2 1;";
        int[] due = {1, 0, 2};
        for (int k = 0; k < 3; k++) {
            c.same("benched at once", Checks.told(three).benched(k), due[k]);
        }
    }

    private static void wording() {
        c.same("no notes", Checks.told("singer 0 1 1;").wording(), 0);
        VowelChoir x = Checks.told(WorkTest.CHOIR);
        c.same("wording", x.wording(), 5);
        Checks.work(x, "word 4 2;");
        c.same("by what is told, not by now", x.wording(), 5);
        c.same("all by one", Checks.told("note 0 1;note 1 1;note 2 1;like 0 5;like 1 5;like 2 5;").wording(), 32);
        c.same("of as few the least bits", Checks.told("note 3 1;note 3 1;like 0 1;like 1 1;like 0 2;like 1 2;").wording(), 2);
        c.same("all six", Checks.told("note 0 1;note 1 1;note 2 1;note 3 1;note 4 1;note 5 1;").wording(), 63);
    }

    private static void wordings() {
        c.same("no notes", new VowelChoir().wordings(0), 1);
        VowelChoir x = Checks.told("note 0 1;note 1 1;note 2 1;like 0 1;like 0 1;like 0 0;like 1 2;like 2 5;like 2 4;");
        c.same("2 * 2 * 3", x.wordings(63), 12);
        c.same("none for note 1", x.wordings(1 + 16 + 32), 0);
        c.same("1, 1, 2", x.wordings(2 + 16 + 32), 2);
        c.same("2, 1, 2", x.wordings(1 + 2 + 16 + 32), 4);
        c.same("no vowels", x.wordings(0), 0);
        c.refuses(x, "wordings(64)", () -> x.wordings(64));
        c.refuses(x, "wordings(-1)", () -> x.wordings(-1));
        StringBuilder twelve = new StringBuilder();
        for (int n = 0; n < 12; n++) {
            twelve.append("note 0 1;");
        }
        for (int n = 0; n < 12; n++) {
            twelve.append("like ").append(n).append(" 1;");
        }
        c.same("2 to the 12", Checks.told(twelve.toString()).wordings(3), 4096);
    }

    private static void who() {
        VowelChoir x = Checks.told("singer 0 1 4;singer 0 1 9;singer 1 1 3;note 0 4;note 0 5;note 1 3;note 0 4;note 1 1;");
        c.same("no book: all sets", x.who(0), 8);
        c.same("none hoarse", x.who(1), 0);
        Checks.book(x, "1 0;");
        c.same("singer 1 is hoarse", x.who(0), 4);
        c.same("just that one", x.who(1), 2);
        Checks.book(x, "1 1;3 0;");
        // Without singer 0 singer 1 has 4, 5 and none for the last one; without any hoarse 0 has 4, 1 has 5, 4.
        c.same("singer 0 is hoarse", x.who(0), 2);
        c.same("just that one", x.who(1), 1);
        Checks.book(x, "0 0;1 0;2 1;");
        c.same("both", x.who(0), 1);
        c.same("0 and 1", x.who(1), 3);
        Checks.book(x, "4 1;");
        c.same("never heard", x.who(0), 0);
        c.same("no first", x.who(1), -1);
        Checks.book(x, "2 0;");
        Checks.work(x, "hoarse 0;sing 4;");
        c.same("with what is left: all sets", x.who(0), 8);
        c.same("the first is the empty one, whoever is hoarse", x.who(1), 0);
        Checks.book(x, "0 0;");
        c.same("of 3 and 7 the one of fewest", x.who(1), 3);
        c.refuses(x, "who(2)", () -> x.who(2));
        c.refuses(x, "who(-1)", () -> x.who(-1));
        VowelChoir y = Checks.told("singer 0 1 9;singer 1 1 1;singer 1 1 1;singer 1 1 1;note 1 1;note 1 1;note 0 1;");
        Checks.book(y, "1 0;");
        c.same("two of three, or all", y.who(0), 8);
        c.same("of alike ones the least bits", y.who(1), 6);
        VowelChoir z = Checks.told("singer 0 1 1;singer 0 1 1;singer 0 1 2;note 0 1;note 0 2;note 0 1;");
        Checks.book(z, "1 0;");
        // Without 0 and 1 the third sings note 0, then has 1 left; without the third nobody has 2.
        c.same("0 and 1, the third, and with it more", z.who(0), 5);
        c.same("one is fewer than two of less bits", z.who(1), 4);
    }

    private static void listen() {
        VowelChoir x = Checks.told("singer 0 1 4;singer 0 1 9;singer 1 1 3;note 0 4;note 0 5;note 1 3;note 0 4;note 1 1;");
        c.same("of alike ones the first", x.listen(0), 1);
        c.same("4 and 4", x.listen(1), 4);
        Checks.book(x, "1 1;");
        c.same("by note 2 or 3, 2 and 2", x.listen(0), 2);
        c.same("2", x.listen(1), 2);
        Checks.book(x, "1 1;2 0;");
        c.same("note 3 tells the most", x.listen(0), 3);
        c.same("1 and 1", x.listen(1), 1);
        Checks.book(x, "1 1;2 0;3 1;");
        c.same("nothing more to tell: the first in no line", x.listen(0), 0);
        c.same("1 and 0", x.listen(1), 1);
        Checks.book(x, "4 1;");
        c.same("no sets are left", x.listen(0), 0);
        c.same("none", x.listen(1), 0);
        Checks.book(x, "0 1;1 1;2 1;3 1;4 1;");
        c.same("all are in lines", x.listen(0), -1);
        c.same("all are in lines", x.listen(1), -1);
        c.refuses(x, "listen(2)", () -> x.listen(2));
        c.refuses(x, "listen(-1)", () -> x.listen(-1));
        Checks.book(x, "1 1;2 1;3 1;4 0;");
        for (int k = 0; k < 4; k++) {
            c.same("each time anew", x.listen(1), 1);
        }
        VowelChoir one = Checks.told("singer 0 1 1;note 0 1;");
        c.same("the only note", one.listen(0), 0);
        c.same("hoarse or not", one.listen(1), 1);
        VowelChoir none = Checks.told("singer 0 1 1;");
        c.same("there are none", none.listen(0), -1);
        c.same("there are none", none.listen(1), -1);
        VowelChoir nobody = Checks.told("note 0 1;note 0 1;");
        c.same("nobody sings", nobody.listen(0), 0);
        c.same("the empty set", nobody.listen(1), 1);
    }
}
