/** Promises 1 to 7: a new object, the TAPE, and the four texts with their FAULTS. */
public final class TextsTest {
    private static final Checks c = new Checks("TextsTest");

    public static void main(String[] args) {
        newObject();
        feed();
        tapeStaysOrGoes();
        choirNumbers();
        choirWords();
        choirTooMany();
        choirBlanks();
        choirBeginsAnew();
        choirsOneBehindTheOther();
        faultyTextsChangeNothing();
        lawValues();
        lawFaults();
        lawDepth();
        lawLimits();
        workFaults();
        workDepth();
        bookFaults();
        fullOfWorks();
        c.end();
    }

    private static String times(int n, String text) {
        StringBuilder out = new StringBuilder();
        for (int i = 0; i < n; i++) {
            out.append(text);
        }
        return out.toString();
    }

    private static void choirFault(String text, int kind, int place) {
        VowelChoir x = new VowelChoir();
        c.same("choir " + text, Checks.choir(x, text), kind - 10);
        c.same("fault of choir " + text, x.fault(), place);
    }

    private static void choirFine(String text, int singers, int notes, int likes) {
        VowelChoir x = new VowelChoir();
        c.same("choir " + text, Checks.choir(x, text), singers);
        c.same("fault of choir " + text, x.fault(), -1);
        c.same("notes of choir " + text, x.told(1), notes);
        c.same("likes of choir " + text, x.told(2), likes);
    }

    // Promise 1.
    private static void newObject() {
        VowelChoir x = new VowelChoir();
        for (int what = 0; what <= 11; what++) {
            c.same("told of a new object " + what, x.told(what), 0);
        }
        c.same("fault", x.fault(), -1);
        c.same("undo", x.undo(), -1);
        c.same("restore", x.restore(), -1);
        for (int what = 0; what < 3; what++) {
            c.same("count of a new object", x.count(what), 0);
        }
        c.same("status 0", x.status(0), 0);
        c.same("status 1", x.status(1), 0);
        c.same("length is the law", x.would(7, 1, 2, 3, 4, 5, 6, 6), 7);
        c.same("NONE", VowelChoir.NONE, -1);
    }

    // Promise 2.
    private static void feed() {
        VowelChoir x = new VowelChoir();
        // "rest 30;rest31;....." with the highest byte first
        c.same("feed", x.feed(0x72657374, 0x2033303B, 0x72657374, 0x33313B00, -1), 20);
        c.same("a byte of 31 is none such", x.choir(15), -8);
        c.same("at the number", x.fault(), 12);
        for (int k = 1; k <= 30; k++) {
            c.same("feed " + k, x.feed(0, 0, 0, 0, 0), 20 * k);
        }
        c.same("feed 31", x.feed(0x72657374, 0, 0, 0, 0), -1);
        c.same("the tape stays", x.count(1), 600);
        c.same("its first byte, too", x.choir(600), -9);
        c.same("fault", x.fault(), 0);
        c.same("the tape is empty", x.count(1), 0);
        c.same("feed anew", x.feed(0, 0, 0, 0, 0), 20);
    }

    private static void tapeStaysOrGoes() {
        VowelChoir x = new VowelChoir();
        Checks.feed(x, "singer 0 1 1;  x    ");
        c.refuses(x, "choir(21)", () -> x.choir(21));
        c.refuses(x, "choir(-1)", () -> x.choir(-1));
        c.refuses(x, "law(21)", () -> x.law(21));
        c.refuses(x, "law(-1)", () -> x.law(-1));
        c.refuses(x, "work(21)", () -> x.work(21));
        c.refuses(x, "work(-1)", () -> x.work(-1));
        c.refuses(x, "book(21)", () -> x.book(21));
        c.refuses(x, "book(-1)", () -> x.book(-1));
        c.same("the tape stays", x.count(1), 20);
        c.same("fault stays", x.fault(), -1);
        c.same("first bytes alone", x.choir(15), 1);
        c.same("the rest is gone", x.count(1), 0);
        Checks.feed(x, times(8, "                    "));
        c.refuses(x, "law(151)", () -> x.law(151));
        c.refuses(x, "work(151)", () -> x.work(151));
        c.refuses(x, "book(61)", () -> x.book(61));
        c.same("the tape stays for these", x.count(1), 160);
        c.same("law of blanks", x.law(150), -9);
        c.same("at the length", x.fault(), 150);
        Checks.feed(x, times(8, "                    "));
        c.same("work of blanks", x.work(150), 0);
        Checks.feed(x, times(8, "                    "));
        c.same("book of blanks", x.book(60), 0);
        c.refuses(x, "choir(1) of nothing", () -> x.choir(1));
        c.same("choir(0)", x.choir(0), 0);
    }

    // Promises 3 and 7.
    private static void choirNumbers() {
        choirFine("singer 0 0 1;singer 5 60 30;note 0 1;note 5 9;like 0 0;like 1 5;rest 0;rest 30;", 2, 2, 2);
        choirFine("singer0 007 1;note0000000000000000000000005 9;", 1, 1, 0);
        choirFault("singer 6 0 1;", 2, 7);
        choirFault("singer 5 61 1;", 2, 9);
        choirFault("singer 5 60 0;", 2, 12);
        choirFault("singer 5 60 31;", 2, 12);
        choirFault("singer 99999999999999999999 60 31;", 2, 7);
        choirFault("singer 4294967296 60 31;", 2, 7);
        choirFault("note 6 1;", 2, 5);
        choirFault("note 5 0;", 2, 7);
        choirFault("note 5 10;", 2, 7);
        choirFault("like 0 1;note 0 1;", 2, 5);
        choirFault("note 0 1;like 1 1;note 0 1;", 2, 14);
        choirFault("note 0 1;like 0 6;", 2, 16);
        choirFault("rest 31;", 2, 5);
        choirFault("singer 6", 2, 7);
    }

    private static void choirWords() {
        choirFault("singers 1 1 1;", 1, 0);
        choirFault("rest 1;sing 1 1 1;", 1, 7);
        choirFault(";", 1, 0);
        choirFault("5;", 1, 0);
        choirFault("Singer 1 1 1;", 1, 0);
        choirFault("singer 1 1;", 1, 10);
        choirFault("singer 1 1 1 1;", 1, 13);
        choirFault("singer 1 1 1", 1, 12);
        choirFault("singer 1 1 1  ", 1, 14);
        choirFault("singer", 1, 6);
        choirFault("singer -1 1 1;", 1, 7);
        choirFault("singer x 1 1;", 1, 7);
        choirFault("singer 0 1 1x;", 1, 12);
        choirFault("rest 1;;", 1, 7);
        choirFault("rest 1;\t", 1, 7);
        choirFault("rest 1;" + (char) 255, 1, 7);
        choirFault("rest" + (char) 160 + "1;", 1, 4);
        choirFault("res t 1;", 1, 0);
    }

    private static void choirTooMany() {
        choirFine(times(7, "singer 0 0 1;"), 7, 0, 0);
        choirFault(times(8, "singer 0 0 1;"), 3, 91);
        choirFine(times(20, "note 0 1;"), 0, 20, 0);
        choirFault(times(21, "note 0 1;"), 3, 180);
        choirFine("note 0 1;" + times(12, "like 0 0;"), 0, 1, 12);
        choirFault("note 0 1;" + times(13, "like 0 0;"), 3, 117);
        choirFine(times(60, "rest 7;"), 0, 0, 0);
        choirFault(times(61, "rest 7;"), 3, 420);
        choirFault(times(60, "rest 7;") + "  singer", 3, 422);
        choirFault(times(60, "rest 7;") + "note x", 3, 420);
        choirFault(times(60, "rest 7;") + "like", 3, 420);
        choirFault(times(60, "rest 7;") + "rests 7;", 1, 420);
        choirFault(times(60, "rest 7;") + ";", 1, 420);
        choirFine(times(60, "rest 7;") + "  ", 0, 0, 0);
    }

    private static void choirBlanks() {
        choirFine("", 0, 0, 0);
        choirFine("   ", 0, 0, 0);
        choirFine("  singer  1   2  3  ;  note 1 2 ;like   0 3;   ", 1, 1, 1);
        choirFine("note1 2;like0 3;rest4;", 0, 1, 1);
    }

    private static void choirBeginsAnew() {
        VowelChoir x = Checks.told("singer 0 5 9;note 0 2;note 1 2;like 1 0;rest 1;");
        Checks.law(x, "1");
        Checks.book(x, "0 1;");
        Checks.work(x, "hymn;hoarse 0;word 1 0;cure 0;cure 0;hymn;hoarse 0;day;");
        x.image();
        c.same("fault of a choir", Checks.choir(x, "singer 0 5 9;note 0 2;x"), -9);
        c.same("all stays: day", x.told(3), 1);
        c.same("all stays: hoarse", x.told(4), 1);
        c.same("all stays: refused", x.told(10), 1);
        c.same("all stays: lines", x.told(9), 1);
        c.same("all stays: law", x.takes(0, 0), 1);
        c.same("all stays: works", x.count(2), 1);
        c.same("all stays: images", x.count(0), 1);
        c.same("choir", Checks.choir(x, "singer 0 5 9;singer 0 5 8;note 0 2;note 1 2;"), 2);
        int[] due = {2, 2, 0, 0, 0, 0, 0, 0, 17, 0, 0, 0};
        for (int what = 0; what <= 11; what++) {
            c.same("told behind choir " + what, x.told(what), due[what]);
        }
        c.same("no law", x.takes(0, 0), 2);
        c.same("no images", x.restore(), -1);
        c.same("nothing to undo", x.undo(), -1);
        // Without a rest clause a rest gives 5 back.
        Checks.work(x, "again 4 [sing 0;];rest;");
        c.same("rest 5", x.singer(0, 3), 6);
    }

    private static void choirsOneBehindTheOther() {
        VowelChoir x = new VowelChoir();
        for (int k = 0; k < 4; k++) {
            c.same("choir", Checks.choir(x, "singer 1 7 9;note 1 2;note 2 3;like 1 1;like 1 0;rest 1;"), 1);
            c.same("likes", x.told(2), 2);
            Checks.work(x, "hymn;rest;");
            c.same("left", x.singer(0, 3), 8);
            c.same("sang this day", x.singer(0, 7), 1);
            c.same("a faulty one", Checks.choir(x, "singer 3 1 1;singer 4 1 8;note 4 9;rest 2;note 3 9;like 0 5;?"), -9);
            c.same("singers stay", x.told(0), 1);
            c.same("vowel stays", x.singer(0, 0), 1);
            c.same("pay stays", x.singer(0, 1), 7);
            c.same("breath stays", x.singer(0, 2), 9);
            c.same("notes stay", x.told(1), 2);
            c.same("length stays", x.note(1, 2), 3);
            c.same("likes stay", x.like(1, 0), 1);
            c.same("words stay", x.words(1), 7);
            c.same("without rest", Checks.choir(x, "singer 1 7 9;note 1 9;"), 1);
            c.same("sang nothing this day", x.singer(0, 7), 0);
            c.same("no likes", x.told(2), 0);
            c.same("left to all", x.told(8), 9);
            Checks.work(x, "hymn;rest;");
            c.same("5 are given back", x.singer(0, 3), 5);
            c.same("left to all", x.told(8), 5);
            Checks.work(x, "day;");
            c.same("left to all", x.told(8), 9);
            c.same("owed to all", x.told(7), 7);
        }
    }

    private static void faultyTextsChangeNothing() {
        VowelChoir x = Checks.told("singer 0 5 9;note 0 2;note 0 3;");
        Checks.law(x, "2");
        Checks.book(x, "1 0;0 1;");
        c.same("faulty law", Checks.law(x, "3+"), -9);
        c.same("law stays", x.takes(0, 0), 2);
        c.same("faulty book", Checks.book(x, "1 0;1 1;"), -8);
        c.same("book stays", x.told(9), 2);
        c.same("book stays as it was", x.who(0), 0);
        c.same("faulty work", Checks.work(x, "hymn;hymn;hymm;"), -9);
        c.same("none is done", x.told(6), 0);
        c.same("none can be undone", x.count(2), 0);
        c.same("fault", x.fault(), 10);
        c.same("fine book", Checks.book(x, ""), 0);
        c.same("no fault by now", x.fault(), -1);
        c.same("book is empty", x.told(9), 0);
    }

    private static void lawIs(String law, int due) {
        VowelChoir x = new VowelChoir();
        c.same("law " + law, Checks.law(x, law), 1);
        c.same("no fault of law " + law, x.fault(), -1);
        c.same("value of law " + law, x.would(3, 7, 11, 5, 13, 4, 17, 6), due);
    }

    // Promises 4 and 14: the values.
    private static void lawValues() {
        lawIs("length", 3);
        lawIs("pay", 7);
        lawIs("left", 11);
        lawIs("sung", 5);
        lawIs("note", 13);
        lawIs("vowel", 4);
        lawIs("day", 17);
        lawIs("singer", 6);
        lawIs("0", 0);
        lawIs("30", 30);
        lawIs("31", 30);
        lawIs("999", 30);
        lawIs("3-4", 0);
        lawIs("10-4-3", 3);
        lawIs("10-(4-3)", 9);
        lawIs("2+3*4", 14);
        lawIs("(2+3)*4", 20);
        lawIs("20/3*2", 12);
        lawIs("20%7*2", 12);
        lawIs("20/7%2", 0);
        lawIs("(0-7)/2+10", 7);
        lawIs("(0-7)%2+10", 9);
        lawIs("7%(0-2)+10", 11);
        lawIs("5/0+2", 2);
        lawIs("5%0+2", 2);
        lawIs("least[4,9]", 4);
        lawIs("most[4,9]", 9);
        lawIs("least [ 9 , 4 ] ", 4);
        lawIs("most[least[1,2],least[5,3]]", 3);
        lawIs(" length*pay-note ", 8);
        // 999 * 999 * 999 * 999 is -426,416,671 in 32 bits, and -42 once it is cut.
        lawIs("999*999*999*999", 0);
        lawIs("999*999*999*999/999/999/10+50", 8);
        // 2 to the 31 is the least number; it stays so, divided by 0 less 1.
        lawIs("512*512*512*16/(0-1)/512/512/512+20", 4);
        lawIs("512*512*512*16%(0-1)+20", 20);
        lawIs("512*512*512*16-1-999*999*999", 30);
    }

    private static void lawFault(String law, int kind, int place) {
        VowelChoir x = new VowelChoir();
        c.same("law " + law, Checks.law(x, law), kind - 10);
        c.same("fault of law " + law, x.fault(), place);
        c.same("no law by " + law, x.would(8, 7, 11, 5, 13, 4, 17, 6), 8);
    }

    private static void lawFaults() {
        lawFault("", 1, 0);
        lawFault("  ", 1, 2);
        lawFault("1000", 2, 0);
        lawFault("1+1000+", 2, 2);
        lawFault("1+", 1, 2);
        lawFault("+1", 1, 0);
        lawFault("1 1", 1, 2);
        lawFault("1;", 1, 1);
        lawFault("lengths", 1, 0);
        lawFault("length length", 1, 7);
        lawFault("length2", 1, 6);
        lawFault("2length", 1, 1);
        lawFault("least", 1, 5);
        lawFault("least(1,2)", 1, 5);
        lawFault("least[1]", 1, 7);
        lawFault("least[1,]", 1, 8);
        lawFault("most[1,2", 1, 8);
        lawFault("most[1,2)", 1, 8);
        lawFault("most[1,2,3]", 1, 8);
        lawFault("(1", 1, 2);
        lawFault("(1]", 1, 2);
        lawFault("()", 1, 1);
        lawFault("1)", 1, 1);
        lawFault("1&2", 1, 1);
        lawFault("rest", 1, 0);
    }

    private static void lawDepth() {
        lawIs("((((((1))))))", 1);
        lawFault("(((((((1)))))))", 3, 6);
        lawFault("(((((( ((", 3, 7);
        lawIs("((((((1))))))+((((((2))))))", 3);
        lawIs("least[(most[1,(least[2,(3)])]),4]", 2);
        lawIs("least[1,least[1,least[1,least[1,least[1,least[1,2]]]]]]", 1);
        lawFault("least[1,least[1,least[1,least[1,least[1,least[1,most[1,2]]]]]]]", 3, 48);
        lawFault("least[1,least[1,least[1,least[1,least[1,least[1,(2)]]]]]]", 3, 48);
        lawFault("least[least[least[least[least[least[(2),1],1],1],1],1],1]", 3, 36);
        lawFault("((((((least", 3, 6);
        lawFault("((((((lease[", 1, 6);
        lawFault("((((((1(", 1, 7);
    }

    private static void lawLimits() {
        VowelChoir x = new VowelChoir();
        String law = times(74, "1+") + "12";
        c.same("law of 150 bytes", Checks.law(x, law), 1);
        c.same("its value", x.would(1, 0, 0, 0, 0, 0, 0, 0), 30);
        c.same("law of 150 bytes that falls", Checks.law(x, "99" + times(74, "-1")), 1);
        c.same("its value", x.would(1, 0, 0, 0, 0, 0, 0, 0), 25);
        c.same("law without blanks", Checks.law(x, times(74, "0*") + "00"), 1);
        c.same("its value", x.would(1, 0, 0, 0, 0, 0, 0, 0), 0);
    }

    private static void workIs(String work, int done, int refused) {
        VowelChoir x = Checks.told("singer 0 5 9;note 0 2;note 1 3;like 1 0;");
        c.same("work " + work, Checks.work(x, work), done);
        c.same("no fault of work " + work, x.fault(), -1);
        c.same("refused by work " + work, x.told(10), refused);
        c.same("works behind work " + work, x.count(2), 1);
    }

    private static void workFault(String work, int kind, int place) {
        VowelChoir x = Checks.told("singer 0 5 9;note 0 2;note 1 3;like 1 0;");
        c.same("work " + work, Checks.work(x, work), kind - 10);
        c.same("fault of work " + work, x.fault(), place);
        c.same("works behind work " + work, x.count(2), 0);
        c.same("sung behind work " + work, x.told(6), 0);
    }

    // Promises 5 and 7: what WORK can be.
    private static void workFaults() {
        workIs("", 0, 0);
        workIs("  ", 0, 0);
        workIs(" sing 0 ; hymn ; rest ; hoarse 0 ; cure 0 ; word 1 0 ; day ; again 2 [ hymn ; ] ; ", 9, 0);
        workIs("sing1;", 0, 1);
        workIs("word 1 5;", 0, 1);
        workIs("again60[];", 0, 0);
        workIs("again 0 [hymn;];", 0, 0);
        workFault("sing 2;", 2, 5);
        workFault("sing;", 1, 4);
        workFault("sing 0", 1, 6);
        workFault("sing 0 0;", 1, 7);
        workFault("hymn 0;", 1, 5);
        workFault("hymns;", 1, 0);
        workFault("hymn;]", 1, 5);
        workFault("]", 1, 0);
        workFault("hymn;;", 1, 5);
        workFault("rest 1;", 1, 5);
        workFault("hoarse 1;", 2, 7);
        workFault("cure 1;", 2, 5);
        workFault("word 2 0;", 2, 5);
        workFault("word 1 6;", 2, 7);
        workFault("word 1;", 1, 6);
        workFault("day 1;", 1, 4);
        workFault("again [hymn;];", 1, 6);
        workFault("again 61 [hymn;];", 2, 6);
        workFault("again 2 hymn;", 1, 8);
        workFault("again 2 [hymn];", 1, 13);
        workFault("again 2 [hymn;]", 1, 15);
        workFault("again 2 [hymn;", 1, 14);
        workFault("again 2 [hymn;;];", 1, 14);
        workFault("hymn;sing 9;x", 2, 10);
        workFault("singer 0;", 1, 0);
        VowelChoir x = new VowelChoir();
        c.same("no singer is there", Checks.work(x, "hoarse 0;"), -8);
        c.same("no note is there", Checks.work(x, "sing 0;"), -8);
        c.same("no note is there", Checks.work(x, "word 0 0;"), -8);
        c.same("fault", x.fault(), 5);
    }

    private static void workDepth() {
        workIs(times(6, "again 1[") + "hymn;" + times(6, "];"), 1, 0);
        workFault(times(7, "again 1[") + "hymn;" + times(7, "];"), 3, 48);
        workFault(times(6, "again 1[") + "hymn;  again", 3, 55);
        workFault(times(6, "again 1[") + "agains", 1, 48);
        workIs(times(6, "again 1[") + times(6, "];") + times(6, "again 1[") + "day;" + times(6, "];"), 1, 0);
    }

    private static void bookIs(String book, int kind, int place) {
        VowelChoir x = Checks.told(times(20, "note 0 2;"));
        c.same("book " + book, Checks.book(x, book), kind - 10);
        c.same("fault of book " + book, x.fault(), place);
        c.same("lines behind book " + book, x.told(9), 0);
    }

    // Promises 6 and 7.
    private static void bookFaults() {
        VowelChoir x = Checks.told(times(20, "note 0 2;"));
        c.same("book", Checks.book(x, " 0 0;19   1 ; 7 0;  "), 3);
        c.same("lines", x.told(9), 3);
        c.same("book of 60 bytes", Checks.book(x, "0 0;1 0;2 0;3 0;4 0;5 0;6 0;7 0;8 0;9 0;10 0;11 0;12 0;13 0;"), 14);
        c.same("another book instead", Checks.book(x, "3 1;"), 1);
        bookIs("20 0;", 2, 0);
        bookIs("0 2;", 2, 2);
        bookIs("0 0;1 1;0 0;", 2, 8);
        bookIs("0 0;00 x", 2, 4);
        bookIs("0 0;0", 2, 4);
        bookIs("0 0", 1, 3);
        bookIs("0;", 1, 1);
        bookIs("0", 1, 1);
        bookIs("0 0;;", 1, 4);
        bookIs("x", 1, 0);
        bookIs("0 0 0;", 1, 4);
        VowelChoir none = new VowelChoir();
        c.same("no note is there", Checks.book(none, "0 0;"), -8);
        c.same("an empty book", none.book(0), 0);
    }

    // Promise 5: -20.
    private static void fullOfWorks() {
        VowelChoir x = Checks.told("singer 0 5 9;note 0 2;");
        for (int k = 1; k <= 16; k++) {
            c.same("work " + k, Checks.work(x, "cure 0;day;"), 1);
            c.same("works", x.count(2), k);
        }
        c.same("a fault ahead", Checks.law(x, "?"), -9);
        c.same("place", x.fault(), 0);
        c.same("work 17", Checks.work(x, "hymm;"), -20);
        c.same("there is no fault", x.fault(), -1);
        c.same("the tape is empty", x.count(1), 0);
        c.same("refused steps stay", x.told(10), 1);
        c.same("the day stays", x.told(3), 16);
        Checks.feed(x, "day;");
        c.refuses(x, "work(21) ahead of -20", () -> x.work(21));
        c.same("the tape stays", x.count(1), 20);
        c.same("work once more", x.work(4), -20);
        c.same("undo", x.undo(), 15);
        c.same("there is room", Checks.work(x, "hymm;"), -9);
        c.same("work", Checks.work(x, "day;"), 1);
        c.same("day", x.told(3), 16);
    }
}
