/** Promises 42 to 45: IMAGES, what is refused, what is counted. */
public final class KeptTest {
    private static final Checks c = new Checks("KeptTest");

    public static void main(String[] args) {
        images();
        worksInImages();
        whatImagesKeep();
        status();
        count();
        c.end();
    }

    private static void images() {
        VowelChoir x = Checks.told(WorkTest.CHOIR);
        c.same("none", x.restore(), -1);
        for (int k = 1; k <= 3; k++) {
            c.same("image", x.image(), k);
            c.same("images", x.count(0), k);
            Checks.work(x, "day;");
        }
        c.same("there are 3", x.image(), -1);
        c.same("images", x.count(0), 3);
        Checks.work(x, "day;");
        for (int k = 2; k >= 0; k--) {
            c.same("restore", x.restore(), k);
            c.same("day", x.told(3), k);
            c.same("works", x.count(2), k);
        }
        c.same("none", x.restore(), -1);
        c.same("image anew", x.image(), 1);
    }

    private static void worksInImages() {
        VowelChoir x = Checks.told(WorkTest.CHOIR);
        Checks.work(x, "hymn;");
        Checks.work(x, "hoarse 1;");
        x.image();
        x.undo();
        x.undo();
        Checks.work(x, "day;day;day;");
        Checks.work(x, "word 4 2;");
        Checks.work(x, "word 1 0;");
        c.same("restore", x.restore(), 0);
        c.same("works", x.count(2), 2);
        c.same("hoarse", x.told(4), 2);
        c.same("worded", x.told(11), 0);
        c.same("undo", x.undo(), 1);
        c.same("not hoarse", x.told(4), 0);
        c.same("sung", x.told(6), 5);
        c.same("undo", x.undo(), 0);
        c.same("not sung", x.told(6), 0);
        for (int k = 0; k < 16; k++) {
            Checks.work(x, "day;");
        }
        x.image();
        x.undo();
        Checks.work(x, "hoarse 0;");
        x.restore();
        c.same("full of works once more", Checks.work(x, "day;"), -20);
        for (int k = 15; k >= 0; k--) {
            x.undo();
            c.same("day", x.told(3), k);
        }
    }

    private static void whatImagesKeep() {
        VowelChoir x = Checks.told(WorkTest.CHOIR);
        Checks.work(x, "word 4 2;hoarse 0;hymn;day;sing 0;rest;");
        int[] told = new int[12];
        for (int what = 0; what < 12; what++) {
            told[what] = x.told(what);
        }
        int[][] singers = new int[4][8];
        for (int i = 0; i < 4; i++) {
            for (int what = 0; what < 8; what++) {
                singers[i][what] = x.singer(i, what);
            }
        }
        x.image();
        Checks.work(x, "cure 0;cure 0;word 4 1;hymn;day;hymn;hymn;");
        c.same("refused", x.told(10), 1);
        c.same("law", Checks.law(x, "2"), 1);
        c.same("book", Checks.book(x, "0 1;"), 1);
        Checks.feed(x, "day;");
        c.refuses(x, "told(12)", () -> x.told(12));
        x.restore();
        for (int what = 0; what < 12; what++) {
            c.same("told(" + what + ")", x.told(what), what == 9 ? 1 : told[what]);
        }
        for (int i = 0; i < 4; i++) {
            for (int what = 0; what < 8; what++) {
                c.same("singer(" + i + ", " + what + ")", x.singer(i, what), singers[i][what]);
            }
        }
        c.same("refused behind restore", x.told(10), 0);
        c.same("the law is not of it", x.takes(0, 0), 2);
        c.same("nor the tape", x.count(1), 20);
        c.same("nor what was refused", x.status(1), 1);
        c.same("restore none", x.restore(), -1);
    }

    private static void status() {
        VowelChoir x = new VowelChoir();
        c.missing(x, "singer(0, 99)", () -> x.singer(0, 99));
        c.missing(x, "words(0)", () -> x.words(0));
        c.refuses(x, "told(99)", () -> x.told(99));
        c.refuses(x, "choir(1)", () -> x.choir(1));
        c.refuses(x, "span", () -> x.span(1, 1, 1, 0, 0, 0));
        c.same("missing", x.status(0), 2);
        c.same("refused", x.status(1), 3);
        c.same("others", x.status(2), -1);
        c.same("others", x.status(-1), -1);
        c.same("others", x.status(Integer.MIN_VALUE), -1);
        Checks.choir(x, WorkTest.CHOIR);
        Checks.law(x, "?");
        Checks.work(x, "cure 0;");
        x.undo();
        x.undo();
        x.restore();
        c.same("a new choir forgets none", x.status(0), 2);
        c.same("what answers counts for nothing", x.status(1), 3);
    }

    private static void count() {
        VowelChoir x = Checks.told(WorkTest.CHOIR);
        c.same("tape", x.count(1), 0);
        x.feed(1, 2, 3, 4, 5);
        x.feed(1, 2, 3, 4, 5);
        c.same("tape", x.count(1), 40);
        c.same("others", x.count(3), -1);
        c.same("others", x.count(-1), -1);
        c.same("images", x.count(0), 0);
        x.image();
        c.same("images", x.count(0), 1);
        x.choir(0);
        c.same("none by now", x.count(0), 0);
        Checks.work(x, "hymn;");
        c.same("works", x.count(2), 1);
        x.undo();
        c.same("works", x.count(2), 0);
    }
}
