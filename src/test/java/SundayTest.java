/** Promises 40 and 41. Seed 1 is known to draw 16838, 5758, 10113, 17515, 31051, 5627, 23010, 7419. */
public final class SundayTest {
    private static final Checks c = new Checks("SundayTest");
    private static final String THREE = "singer 0 7 9;singer 1 5 9;singer 2 3 9;note 0 3;note 1 5;note 2 8;rest 4;";

    public static void main(String[] args) {
        oneSinger();
        whoIsDrawn();
        restAndHymnOnceMore();
        fromWhatIsNow();
        nobody();
        beyondTheLastDay();
        refusals();
        span();
        c.end();
    }

    private static void sundays(VowelChoir x, int seed, int days, int q, int... due) {
        for (int what = 0; what < 4; what++) {
            c.same("sunday(" + seed + ", " + days + ", " + q + ", " + what + ")", x.sunday(seed, days, q, what), due[what]);
        }
    }

    /** One singer is drawn each day: hoarse on the first, cured on the second. */
    private static void oneSinger() {
        VowelChoir x = Checks.told("singer 0 7 9;note 0 5;note 0 4;note 0 1;rest 4;");
        sundays(x, 99, 1, 0, 3, 1, 0, 0);
        sundays(x, 99, 2, 0, 4, 0, 7, 2);
        sundays(x, 99, 3, 0, 7, 1, 7, 2);
        // With a second hymn behind a rest: 4 more, which note 1 takes.
        sundays(x, 99, 1, 16, 6, 1, 0, 0);
        sundays(x, 99, 2, 16, 6 + 1 + 2, 0, 7, 2 + 1);
        sundays(x, -5, 48, 0, 24 * 3 + 24, 0, 24 * 7, 48);
    }

    private static void whoIsDrawn() {
        VowelChoir x = Checks.told(THREE);
        // By 3: singers 2, 0, 1, 0.
        sundays(x, 1, 1, 0, 1, 4, 12, 2);
        sundays(x, 1, 2, 0, 3, 5, 12 + 5, 3);
        sundays(x, 1, 3, 0, 6, 7, 12 + 5, 3);
        sundays(x, 1, 4, 0, 8, 6, 12 + 5 + 7, 4);
    }

    private static void restAndHymnOnceMore() {
        VowelChoir x = Checks.told(THREE);
        // By 16: 14, 11, 11, 11.
        sundays(x, 1, 1, 14, 1, 4, 12, 2);
        // 9 less 3, 4 more, less 3; 9 less 5, 4 more, less 5.
        sundays(x, 1, 1, 15, 2, 4, 12, 4);
        sundays(x, 1, 2, 11, 3, 5, 17, 3);
        sundays(x, 1, 2, 12, 3 + 2, 5, 17, 3 + 1);
        VowelChoir y = Checks.told("singer 0 7 9;singer 1 5 9;singer 2 3 9;note 0 3;note 1 5;note 2 8;rest 0;");
        // Without breath given back singer 1 has 4 left for its 5.
        sundays(y, 1, 1, 15, 3, 4, 12, 3);
        VowelChoir z = Checks.told("singer 0 7 9;singer 1 5 9;singer 2 3 9;note 0 3;note 1 5;note 2 8;");
        Checks.law(z, "0");
        // None lost breath: the rest can't be done, the hymn is sung once more all the same.
        sundays(z, 1, 1, 15, 2, 4, 12, 4);
    }

    private static void fromWhatIsNow() {
        VowelChoir x = Checks.told(THREE);
        Checks.work(x, "hoarse 2;hymn;day;sing 0;");
        c.same("owed ahead", x.told(7), 12);
        // Singer 2 is cured; 0 has 6 left.
        sundays(x, 1, 1, 0, 0, 0, 12 + 15, 3);
        c.same("dropped stays", x.told(5), 1);
        c.same("day stays", x.told(3), 1);
    }

    private static void nobody() {
        VowelChoir x = Checks.told("note 0 3;note 1 5;");
        sundays(x, 1, 5, 16, 10, 0, 0, 0);
    }

    private static void beyondTheLastDay() {
        VowelChoir x = Checks.told("singer 0 7 29;note 0 1;");
        Checks.work(x, "again 60 [day;day;day;];");
        Checks.work(x, "again 60 [day;day;day;];");
        Checks.work(x, "again 40 [day;];");
        c.same("day", x.told(3), 400);
        Checks.law(x, "(day-401)*31");
        // Hoarse on 400, sings on 401, hoarse on 402, too dear on 403.
        sundays(x, 3, 2, 0, 1, 0, 7, 1);
        sundays(x, 3, 4, 0, 3, 0, 7, 1);
    }

    private static void refusals() {
        VowelChoir x = Checks.told(THREE);
        c.refuses(x, "days 0", () -> x.sunday(1, 0, 0, 0));
        c.refuses(x, "days 49", () -> x.sunday(1, 49, 0, 0));
        c.refuses(x, "q -1", () -> x.sunday(1, 1, -1, 0));
        c.refuses(x, "q 17", () -> x.sunday(1, 1, 17, 0));
        c.refuses(x, "what -1", () -> x.sunday(1, 1, 0, -1));
        c.refuses(x, "what 4", () -> x.sunday(1, 1, 0, 4));
    }

    private static void span() {
        VowelChoir x = Checks.told(THREE);
        int[] seeds = {1, 100, Integer.MAX_VALUE - 2, -4};
        for (int seed : seeds) {
            int fewest = Integer.MAX_VALUE;
            int most = 0;
            int[] hoarse = new int[3];
            for (int k = 0; k < 10; k++) {
                int dropped = x.sunday(seed + k, 17, 9, 0);
                fewest = Math.min(fewest, dropped);
                most = Math.max(most, dropped);
                for (int i = 0; i < 3; i++) {
                    hoarse[i] += x.sunday(seed + k, 17, 9, 1) >> i & 1;
                }
            }
            c.same("fewest", x.span(seed, 10, 17, 9, 0, 0), fewest);
            c.same("most", x.span(seed, 10, 17, 9, 1, 2), most);
            for (int i = 0; i < 3; i++) {
                c.same("hoarse", x.span(seed, 10, 17, 9, 2, i), hoarse[i]);
            }
        }
        c.same("one seed: fewest", x.span(1, 1, 1, 0, 0, 2), 1);
        Checks.work(x, "hoarse 0;hymn;cure 0;day;");
        c.same("dropped ahead of it do not count: fewest", x.span(1, 1, 1, 0, 0, 2), 1);
        c.same("dropped ahead of it do not count: most", x.span(1, 1, 1, 0, 1, 2), 1);
        c.same("one seed: singer 2 is drawn", x.span(1, 1, 1, 0, 2, 2), 1);
        c.same("one seed: singer 0 is not", x.span(1, 1, 1, 0, 2, 0), 0);
        c.refuses(x, "many 0", () -> x.span(1, 0, 1, 0, 0, 0));
        c.refuses(x, "many 11", () -> x.span(1, 11, 1, 0, 0, 0));
        c.refuses(x, "days 0", () -> x.span(1, 1, 0, 0, 0, 0));
        c.refuses(x, "days 49", () -> x.span(1, 1, 49, 0, 0, 0));
        c.refuses(x, "q -1", () -> x.span(1, 1, 1, -1, 0, 0));
        c.refuses(x, "q 17", () -> x.span(1, 1, 1, 17, 0, 0));
        c.refuses(x, "what 3", () -> x.span(1, 1, 1, 0, 3, 0));
        c.refuses(x, "what -1", () -> x.span(1, 1, 1, 0, -1, 0));
        for (int what = 0; what < 3; what++) {
            int w = what;
            c.refuses(x, "singer 3", () -> x.span(1, 1, 1, 0, w, 3));
            c.refuses(x, "singer -1", () -> x.span(1, 1, 1, 0, w, -1));
        }
    }
}
