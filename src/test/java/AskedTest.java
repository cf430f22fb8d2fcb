/** Promises 9 to 15, 24, 25 and 29 to 39: what is told of the choir as it is now, and of hymns ahead. */
public final class AskedTest {
    private static final Checks c = new Checks("AskedTest");

    public static void main(String[] args) {
        told();
        singer();
        note();
        like();
        takes();
        would();
        ahead();
        duty();
        range();
        dearest();
        byVowel();
        words();
        mute();
        idle();
        longest();
        chorus();
        spare();
        nothingStaysChanged();
        c.end();
    }

    private static void row(String call, long[] got, long... due) {
        for (int i = 0; i < due.length; i++) {
            c.same(call + " " + i, got[i], due[i]);
        }
    }

    private static void told() {
        VowelChoir x = Checks.told(WorkTest.CHOIR);
        Checks.book(x, "0 1;5 1;");
        Checks.work(x, "word 4 2;word 4 2;word 4 0;hymn;rest;hoarse 0;hoarse 0;cure 2;sing 0;sing 3;day;");
        int[] due = {4, 6, 3, 1, 1, 1, 7, 26, 21, 2, 4, 16};
        for (int what = 0; what < 12; what++) {
            c.same("told(" + what + ")", x.told(what), due[what]);
        }
        Checks.work(x, "hymn;");
        c.same("refused by the latest work", x.told(10), 0);
        c.refuses(x, "told(12)", () -> x.told(12));
        c.refuses(x, "told(-1)", () -> x.told(-1));
    }

    private static void singer() {
        VowelChoir x = Checks.told(WorkTest.CHOIR);
        Checks.work(x, "hymn;day;hymn;sing 5;hoarse 2;");
        int[][] due = {{0, 5, 6, 1, 0, 4, 5, 2}, {1, 9, 4, 2, 0, 2, 9, 1}, {0, 3, 9, 3, 1, 3, 3, 2},
            {2, 9, 2, 0, 0, 2, 9, 1}};
        for (int i = 0; i < 4; i++) {
            for (int what = 0; what < 8; what++) {
                c.same("singer(" + i + ", " + what + ")", x.singer(i, what), due[i][what]);
            }
        }
        c.missing(x, "singer(4, 0)", () -> x.singer(4, 0));
        c.missing(x, "singer(-1, 0)", () -> x.singer(-1, 0));
        c.missing(x, "singer(4, 8)", () -> x.singer(4, 8));
        c.refuses(x, "singer(3, 8)", () -> x.singer(3, 8));
        c.refuses(x, "singer(0, -1)", () -> x.singer(0, -1));
    }

    private static void note() {
        VowelChoir x = Checks.told(WorkTest.CHOIR);
        Checks.work(x, "word 1 0;sing 0;");
        int[][] due = {{0, 0, 3, 0}, {0, 1, 2, 0}, {0, 0, 4, 2}, {2, 2, 2, 3}, {1, 1, 3, 1}, {0, 0, 2, 0}};
        for (int n = 0; n < 6; n++) {
            for (int what = 0; what < 4; what++) {
                c.same("note(" + n + ", " + what + ")", x.note(n, what), due[n][what]);
            }
        }
        Checks.work(x, "hoarse 1;");
        c.same("sung by none", x.note(4, 3), -1);
        c.missing(x, "note(6, 0)", () -> x.note(6, 0));
        c.missing(x, "note(-1, 4)", () -> x.note(-1, 4));
        c.refuses(x, "note(0, 4)", () -> x.note(0, 4));
        c.refuses(x, "note(5, -1)", () -> x.note(5, -1));
    }

    private static void like() {
        VowelChoir x = Checks.told(WorkTest.CHOIR);
        int[][] due = {{1, 0}, {4, 2}, {4, 1}};
        for (int k = 0; k < 3; k++) {
            c.same("like", x.like(k, 0), due[k][0]);
            c.same("like", x.like(k, 1), due[k][1]);
        }
        c.missing(x, "like(3, 0)", () -> x.like(3, 0));
        c.missing(x, "like(-1, 2)", () -> x.like(-1, 2));
        c.refuses(x, "like(0, 2)", () -> x.like(0, 2));
        c.refuses(x, "like(2, -1)", () -> x.like(2, -1));
    }

    private static void takes() {
        VowelChoir x = Checks.told(WorkTest.CHOIR);
        Checks.law(x, "length*left-sung");
        c.same("3 * 6", x.takes(0, 0), 18);
        c.same("3 * 9 of another", x.takes(0, 2), 27);
        c.same("3 * 4 of another vowel", x.takes(0, 1), 12);
        c.same("30 at most", x.takes(2, 2), 30);
        Checks.law(x, "1");
        Checks.work(x, "again 6 [sing 0;];hoarse 0;");
        Checks.law(x, "length*left-sung");
        c.same("0 at least", x.takes(0, 0), 0);
        c.missing(x, "takes(6, 0)", () -> x.takes(6, 0));
        c.missing(x, "takes(0, 4)", () -> x.takes(0, 4));
        c.missing(x, "takes(-1, 0)", () -> x.takes(-1, 0));
        c.missing(x, "takes(0, -1)", () -> x.takes(0, -1));
    }

    private static void would() {
        VowelChoir x = new VowelChoir();
        int[] least = {1, 0, 0, 0, 0, 0, 0, 0};
        int[] most = {9, 60, 30, 9999, 19, 5, 400, 6};
        c.same("would, least", would(x, least), 1);
        c.same("would, most", would(x, most), 9);
        for (int i = 0; i < 8; i++) {
            int[] low = least.clone();
            int[] high = most.clone();
            low[i]--;
            high[i]++;
            c.refuses(x, "would below at " + i, () -> would(x, low));
            c.refuses(x, "would above at " + i, () -> would(x, high));
        }
        Checks.law(x, "sung-9990");
        c.same("sung", would(x, most), 9);
        Checks.law(x, "day-singer-380");
        c.same("day, singer", would(x, most), 14);
    }

    private static long would(VowelChoir x, int[] a) {
        return x.would(a[0], a[1], a[2], a[3], a[4], a[5], a[6], a[7]);
    }

    private static void ahead() {
        VowelChoir x = Checks.told(WorkTest.CHOIR);
        row("ahead 0", new long[] {x.ahead(0, 0), x.ahead(0, 1), x.ahead(0, 2)}, 0, 21, 0);
        row("ahead 1", new long[] {x.ahead(1, 0), x.ahead(1, 1), x.ahead(1, 2)}, 1, 8, 8);
        row("ahead 2", new long[] {x.ahead(2, 0), x.ahead(2, 1), x.ahead(2, 2)}, 4, 1, 14);
        row("ahead 20", new long[] {x.ahead(20, 0), x.ahead(20, 1), x.ahead(20, 2)}, 4 + 18 * 6, 1, 14);
        Checks.work(x, "hymn;hoarse 2;");
        row("behind a hymn", new long[] {x.ahead(1, 0), x.ahead(1, 1), x.ahead(1, 2)}, 5, 6, 10);
        c.refuses(x, "ahead(21, 0)", () -> x.ahead(21, 0));
        c.refuses(x, "ahead(-1, 0)", () -> x.ahead(-1, 0));
        c.refuses(x, "ahead(0, 3)", () -> x.ahead(0, 3));
        c.refuses(x, "ahead(0, -1)", () -> x.ahead(0, -1));
    }

    private static void duty() {
        VowelChoir x = Checks.told(WorkTest.CHOIR);
        row("duty", new long[] {x.duty(0), x.duty(1), x.duty(2), x.duty(3)}, 33, 2, 4, 8);
        Checks.work(x, "hoarse 0;word 4 2;");
        row("duty, one hoarse", new long[] {x.duty(0), x.duty(1), x.duty(2), x.duty(3)}, 0, 2, 37, 8);
        c.missing(x, "duty(4)", () -> x.duty(4));
        c.missing(x, "duty(-1)", () -> x.duty(-1));
    }

    private static void range() {
        VowelChoir x = Checks.told(WorkTest.CHOIR);
        row("range", new long[] {x.range(0), x.range(1), x.range(2), x.range(3)}, 1, 2, 2, 1);
        Checks.work(x, "hoarse 0;");
        c.same("range of one that is hoarse", x.range(0), 0);
        Checks.law(x, "0");
        c.same("range without end", x.range(1), 20);
        // Singer 1 sings note 1 as its first and its second, then its 20th and later ones come too dear.
        Checks.law(x, "sung/6*30");
        c.same("six notes, two a hymn", x.range(1), 3);
        c.same("six notes, one a hymn", x.range(3), 6);
        c.missing(x, "range(4)", () -> x.range(4));
        c.missing(x, "range(-1)", () -> x.range(-1));
    }

    private static void dearest() {
        VowelChoir x = Checks.told(WorkTest.CHOIR);
        c.same("of alike ones the first", x.dearest(0), 1);
        c.same("its pay", x.dearest(1), 9);
        c.refuses(x, "dearest(2)", () -> x.dearest(2));
        c.refuses(x, "dearest(-1)", () -> x.dearest(-1));
        VowelChoir y = Checks.told("singer 3 0 1;note 0 1;");
        c.same("one without pay", y.dearest(0), 0);
        c.same("its pay", y.dearest(1), 0);
        VowelChoir none = Checks.told("note 0 9;");
        c.same("none", none.dearest(0), -1);
        c.same("none", none.dearest(1), -1);
    }

    private static void byVowel() {
        VowelChoir x = Checks.told(WorkTest.CHOIR);
        long[] voices = new long[6];
        long[] sounds = new long[6];
        long[] beats = new long[6];
        long[] alone = new long[6];
        Checks.work(x, "word 4 2;hoarse 1;");
        for (int v = 0; v < 6; v++) {
            voices[v] = x.voices(v);
            sounds[v] = x.sounds(v);
            beats[v] = x.beats(v);
            alone[v] = x.alone(v);
        }
        row("voices", voices, 5, 2, 8, 0, 0, 0);
        row("sounds", sounds, 37, 2, 24, 0, 0, 0);
        row("beats", beats, 9, 2, 5, 0, 0, 0);
        row("alone", alone, -1, 1, 3, -1, -1, -1);
        VowelChoir y = Checks.told("singer 5 0 1;note 5 9;");
        row("vowel 5", new long[] {y.voices(5), y.sounds(5), y.beats(5), y.alone(5)}, 1, 1, 9, 0);
        for (int v : new int[] {-1, 6}) {
            c.refuses(x, "voices", () -> x.voices(v));
            c.refuses(x, "sounds", () -> x.sounds(v));
            c.refuses(x, "beats", () -> x.beats(v));
            c.refuses(x, "alone", () -> x.alone(v));
        }
    }

    private static void words() {
        VowelChoir x = Checks.told(WorkTest.CHOIR);
        long[] got = new long[6];
        Checks.work(x, "word 4 2;");
        for (int n = 0; n < 6; n++) {
            got[n] = x.words(n);
        }
        row("words", got, 1, 3, 1, 4, 6, 1);
        c.missing(x, "words(6)", () -> x.words(6));
        c.missing(x, "words(-1)", () -> x.words(-1));
        c.same("likes of an earlier choir are gone", Checks.choir(x, "note 5 1;note 0 1;"), 0);
        c.same("words", x.words(0), 32);
        c.same("words", x.words(1), 1);
    }

    private static void mute() {
        VowelChoir x = Checks.told(WorkTest.CHOIR);
        c.same("each by itself", x.mute(), 0);
        Checks.work(x, "hymn;");
        c.same("1, 2, 5 and 0 are left", x.mute(), 8 + 16);
        Checks.work(x, "hoarse 2;");
        c.same("1 and 2 by two", x.mute(), 1 + 4 + 8 + 16 + 32);
        c.same("none", new VowelChoir().mute(), 0);
    }

    private static void idle() {
        VowelChoir x = Checks.told(WorkTest.CHOIR);
        c.same("idle", x.idle(), 0);
        Checks.work(x, "hoarse 1;hoarse 2;");
        c.same("who is hoarse is idle", x.idle(), 6);
        Checks.work(x, "cure 1;cure 2;hymn;");
        c.same("singer 0 has 1 left, singer 3 none", x.idle(), 9);
        c.same("of nobody", new VowelChoir().idle(), 0);
        c.same("without notes", Checks.told("singer 0 0 1;singer 1 0 1;").idle(), 3);
    }

    private static void longest() {
        VowelChoir x = Checks.told(WorkTest.CHOIR);
        c.same("longest", x.longest(0), 2);
        c.same("its length", x.longest(1), 4);
        c.refuses(x, "longest(2)", () -> x.longest(2));
        c.refuses(x, "longest(-1)", () -> x.longest(-1));
        VowelChoir y = Checks.told("note 0 8;note 1 9;note 0 9;");
        c.same("of alike ones the first", y.longest(0), 1);
        c.same("its length", y.longest(1), 9);
        VowelChoir none = Checks.told("singer 0 60 1;");
        c.same("none", none.longest(0), -1);
        c.same("none", none.longest(1), -1);
    }

    private static void chorus() {
        VowelChoir x = Checks.told(WorkTest.CHOIR);
        row("chorus", new long[] {x.chorus(0), x.chorus(1), x.chorus(4), x.chorus(15)}, 0, 2, 3, 5);
        Checks.work(x, "hoarse 0;sing 0;");
        row("chorus by what is left", new long[] {x.chorus(0), x.chorus(1), x.chorus(4), x.chorus(15)}, 0, 2, 2, 5);
        c.refuses(x, "chorus(16)", () -> x.chorus(16));
        c.refuses(x, "chorus(-1)", () -> x.chorus(-1));
        c.refuses(x, "chorus(1 << 31)", () -> x.chorus(1 << 31));
        VowelChoir none = new VowelChoir();
        c.same("of nobody", none.chorus(0), 0);
        c.refuses(none, "chorus(1)", () -> none.chorus(1));
        c.same("of seven", Checks.told("singer 0 1 1;singer 0 1 1;singer 0 1 1;singer 0 1 1;singer 0 1 1;"
                + "singer 0 1 1;singer 0 1 1;note 0 1;").chorus(127), 1);
    }

    private static void spare() {
        VowelChoir x = Checks.told(WorkTest.CHOIR);
        c.same("spare", x.spare(0), 3);
        c.same("how much", x.spare(1), 2);
        Checks.work(x, "sing 1;");
        c.same("of alike ones the first", x.spare(0), 1);
        Checks.work(x, "sing 3;hoarse 3;");
        c.same("hoarse or not", x.spare(0), 3);
        c.same("none left", x.spare(1), 0);
        c.refuses(x, "spare(2)", () -> x.spare(2));
        c.refuses(x, "spare(-1)", () -> x.spare(-1));
        VowelChoir first = Checks.told("singer 0 1 4;singer 0 1 5;");
        c.same("the first", first.spare(0), 0);
        c.same("how much", first.spare(1), 4);
        VowelChoir none = new VowelChoir();
        c.same("of nobody", none.spare(0), -1);
        c.same("of nobody", none.spare(1), -1);
    }

    private static void nothingStaysChanged() {
        VowelChoir x = Checks.told(WorkTest.CHOIR);
        Checks.book(x, "1 1;");
        Checks.work(x, "sing 0;hoarse 2;hoarse 2;word 4 2;");
        long before = sumOfAll(x);
        x.ahead(20, 0);
        x.cast();
        x.bench();
        x.benched(3);
        x.wording();
        x.wordings(63);
        x.who(0);
        x.listen(0);
        x.duty(0);
        x.range(0);
        x.mute();
        x.idle();
        x.note(0, 3);
        x.chorus(15);
        x.sunday(1, 48, 16, 0);
        x.span(1, 10, 48, 16, 0, 0);
        x.takes(0, 0);
        x.would(1, 1, 1, 1, 1, 1, 1, 1);
        c.same("nothing stays changed", sumOfAll(x), before);
    }

    private static long sumOfAll(VowelChoir x) {
        long sum = 0;
        for (int what = 0; what < 12; what++) {
            sum = sum * 31 + x.told(what);
        }
        for (int i = 0; i < 4; i++) {
            for (int what = 0; what < 8; what++) {
                sum = sum * 31 + x.singer(i, what);
            }
        }
        for (int n = 0; n < 6; n++) {
            sum = sum * 31 + x.note(n, 0);
        }
        return sum * 31 + x.count(0) + x.count(1) + x.count(2);
    }
}
