import java.math.BigInteger;

/** The edges of SUNDAYS and of spans of them: seeds that wrap, what is DRAWN, Q, DAYS, from what is now. */
public final class SundayEdgesTest {
    private static final Checks c = new Checks("SundayEdgesTest");
    private static final int[] SEEDS = {0, 1, -1, 2, 7, 12345, 65535, 65536, 1 << 30, -(1 << 30), Integer.MAX_VALUE,
        Integer.MAX_VALUE - 1, Integer.MIN_VALUE, Integer.MIN_VALUE + 1, 987654321, -987654321};

    public static void main(String[] args) {
        drawnBySingers();
        belowQ();
        restIfItCanBeDone();
        daysAtTheirEdges();
        withoutSingers();
        fromWhatIsNow();
        beyondDay400();
        seedsOfASpan();
        spanAtItsEdges();
        c.end();
    }

    /** What is DRAWN as the k-th (from 0 on), with numbers that know no wrapping. */
    private static int drawn(int seed, int k, int by) {
        BigInteger all = BigInteger.ONE.shiftLeft(32);
        BigInteger at = BigInteger.valueOf(seed).mod(all);
        for (int i = 0; i <= k; i++) {
            at = at.multiply(BigInteger.valueOf(1103515245)).add(BigInteger.valueOf(12345)).mod(all);
        }
        return at.shiftRight(16).mod(BigInteger.valueOf(32768)).mod(BigInteger.valueOf(by)).intValue();
    }

    private static int hoarse(int seed, int days, int singers) {
        int bits = 0;
        for (int day = 0; day < days; day++) {
            bits ^= 1 << drawn(seed, 2 * day, singers);
        }
        return bits;
    }

    // "DRAWN by how many SINGERS: hoarse, or, if it is, cure"; "the SEED (32 bits) becomes ..; its bits 16 to 30"
    private static void drawnBySingers() {
        for (int singers = 1; singers <= 7; singers++) {
            VowelChoir x = Checks.told(Script.times(singers, "singer 0 1 1;"));
            for (int seed : SEEDS) {
                for (int days : new int[] {1, 2, 3, 47, 48}) {
                    c.same("hoarse by " + seed + " of " + singers + " in " + days, x.sunday(seed, days, 8, 1),
                            hoarse(seed, days, singers));
                }
            }
        }
        Script.run(c, "0 draws 0", "choir 'singer 0 1 1;singer 0 1 1;' = 2", "sunday 0 1 0 1 = 1");
    }

    // "DRAWN by 16 below Q: rest .., hymn once more": Q 0 to 16
    private static void belowQ() {
        for (int seed : SEEDS) {
            int by = drawn(seed, 1, 16);
            // The note is sung by none: it is dropped in each hymn.
            Script.run(c, "seed " + seed + " draws " + by, "choir 'singer 0 1 1;note 1 1;' = 1",
                    "sunday " + seed + " 1 " + by + " 0 = 1", "sunday " + seed + " 1 " + (by + 1) + " 0 = 2",
                    "sunday " + seed + " 1 0 0 = 1", "sunday " + seed + " 1 16 0 = 2", "sunday " + seed + " 48 0 0 = 48",
                    "sunday " + seed + " 48 16 0 = 96");
        }
    }

    // "rest (if it can be done), hymn once more; then day"
    private static void restIfItCanBeDone() {
        // By seed 0 the first singer is hoarse on the first day; the second one sings.
        Script.run(c, "a rest gives breath for the second hymn", "choir 'singer 0 7 9;singer 1 3 9;note 0 5;note 1 5;rest 1;' = 2",
                "sunday 0 1 16 0 = 2", "sunday 0 1 16 3 = 2", "sunday 0 1 0 0 = 1", "sunday 0 1 0 3 = 1", "sunday 0 1 16 2 = 3");
        Script.run(c, "too little breath by one", "choir 'singer 0 7 9;singer 1 3 9;note 0 5;note 1 5;rest 0;' = 2",
                "sunday 0 1 16 0 = 3", "sunday 0 1 16 3 = 1");
        Script.run(c, "all have theirs: the hymn once more all the same", "choir 'singer 0 7 9;singer 1 3 9;note 0 5;note 1 5;' = 2",
                "law '0' = 1", "sunday 0 1 16 0 = 2", "sunday 0 1 16 3 = 2", "sunday 0 1 16 2 = 3");
        Script.run(c, "each day all have their breath anew", "choir 'singer 0 7 5;note 0 5;' = 1", "sunday 0 2 0 3 = 1",
                "sunday 0 4 0 3 = 2", "sunday 0 48 0 3 = 24", "sunday 0 48 16 3 = 48");
    }

    // "so many DAYS (1 to 48)"
    private static void daysAtTheirEdges() {
        Script.run(c, "days", "choir 'singer 0 60 5;note 0 5;note 1 1;rest 0;' = 1", "sunday 5 1 0 0 = 2", "sunday 5 1 0 1 = 1",
                "sunday 5 1 0 2 = 0", "sunday 5 1 0 3 = 0", "sunday 5 48 0 0 = 72", "sunday 5 48 0 1 = 0",
                "sunday 5 48 0 2 = 1440", "sunday 5 48 0 3 = 24", "sunday 5 47 0 1 = 1", "sunday 5 0 0 0 ! IA",
                "sunday 5 49 0 0 ! IA", "sunday 5 48 17 0 ! IA", "sunday 5 48 -1 0 ! IA", "sunday 5 48 16 4 ! IA",
                "sunday 5 48 16 -1 ! IA");
    }

    // "Without SINGERS nothing is DRAWN: hymn, day."
    private static void withoutSingers() {
        Script.run(c, "without singers", "choir 'note 0 1;note 1 1;' = 0", "sunday 3 1 0 0 = 2", "sunday 3 1 16 0 = 2",
                "sunday 3 48 16 0 = 96", "sunday 3 48 16 1 = 0", "sunday 3 48 16 2 = 0", "sunday 3 48 16 3 = 0", "told 3 = 0");
    }

    // Promise 40: "in it", "then": what was dropped, sung and owed ahead; "Asked, nothing stays changed"
    private static void fromWhatIsNow() {
        Script.run(c, "from what is now", "choir 'singer 0 7 9;note 0 5;note 0 5;like 0 1;' = 1", "work 'hymn;hymn;day;sing 0;' = 4",
                "told 5 = 3", "told 6 = 2", "told 7 = 7", "sunday 9 1 0 0 = 2", "sunday 9 1 0 1 = 1", "sunday 9 1 0 2 = 14",
                "sunday 9 1 0 3 = 0", "work 'hoarse 0;' = 1", "sunday 9 1 0 0 = 2", "sunday 9 1 0 1 = 0", "sunday 9 1 0 2 = 14",
                "sunday 9 1 16 0 = 3", "sunday 9 1 16 3 = 1", "work 'word 0 1;' = 1", "sunday 9 2 0 0 = 4", "told 5 = 3",
                "told 6 = 2", "told 7 = 7", "told 3 = 1", "told 4 = 1", "told 10 = 0", "singer 0 3 = 4", "singer 0 7 = 1");
        Script.run(c, "the law sees its days", "choir 'singer 0 7 9;note 0 1;' = 1", "work 'hoarse 0;' = 1", "law 'day*10' = 1",
                "sunday 0 1 0 3 = 1", "sunday 0 3 0 3 = 1", "sunday 0 3 0 0 = 2", "law 'sung*4' = 1", "sunday 0 3 0 3 = 2",
                "sunday 0 5 0 3 = 3", "sunday 0 7 0 3 = 3");
    }

    // "DAYS go by as by day (beyond 400, too)"
    private static void beyondDay400() {
        String day = "work 'again 60[day;day;day;];' = 180";
        Script.run(c, "beyond", "choir 'singer 0 7 9;note 0 1;' = 1", day, day, "work 'again 40[day;];hoarse 0;' = 41",
                "law '(day-400)*5' = 1", "sunday 0 1 0 3 = 1", "sunday 0 3 0 3 = 1", "sunday 0 48 0 3 = 1",
                "law '(401-day)*10' = 1", "sunday 0 2 0 3 = 0", "sunday 0 3 0 3 = 1", "sunday 0 5 0 3 = 2",
                "sunday 0 48 0 2 = 161", "told 3 = 400");
    }

    private static void sameAsSundays(VowelChoir x, int seed, int many, int days, int q) {
        int fewest = Integer.MAX_VALUE;
        int most = -1;
        int[] hoarse = new int[x.told(0)];
        for (int k = 0; k < many; k++) {
            int dropped = x.sunday(seed + k, days, q, 0);
            fewest = Math.min(fewest, dropped);
            most = Math.max(most, dropped);
            for (int i = 0; i < hoarse.length; i++) {
                hoarse[i] += x.sunday(seed + k, days, q, 1) >> i & 1;
            }
        }
        String of = "span(" + seed + ", " + many + ", " + days + ", " + q + ")";
        for (int i = 0; i < hoarse.length; i++) {
            c.same("fewest of " + of, x.span(seed, many, days, q, 0, i), fewest);
            c.same("most of " + of, x.span(seed, many, days, q, 1, i), most);
            c.same("hoarse of " + of, x.span(seed, many, days, q, 2, i), hoarse[i]);
        }
    }

    // "Of so many SEEDS (1 to 10; seed, seed and 1, ..)": behind the greatest comes the least
    private static void seedsOfASpan() {
        for (int seed : SEEDS) {
            for (int many : new int[] {1, 2, 9, 10}) {
                VowelChoir x = Checks.told("singer 0 1 5;singer 1 1 9;singer 0 1 7;note 0 5;note 1 4;note 0 3;note 1 5;");
                Checks.work(x, "hymn;hoarse 1;");
                sameAsSundays(x, seed, many, 7, 9);
            }
        }
        VowelChoir x = Checks.told("singer 0 1 5;singer 1 1 9;note 0 5;note 1 4;");
        sameAsSundays(x, Integer.MAX_VALUE - 4, 10, 48, 16);
        sameAsSundays(x, -5, 10, 1, 0);
    }

    private static void spanAtItsEdges() {
        Script.run(c, "span", "choir 'singer 0 1 5;note 0 5;' = 1", "span 1 1 1 0 0 0 = 1", "span 1 1 1 0 1 0 = 1",
                "span 1 1 1 0 2 0 = 1", "span 1 10 1 0 2 0 = 10", "span 1 10 48 16 2 0 = 0", "span 1 10 48 0 0 0 = 24",
                "span MAX 10 48 0 1 0 = 24", "span MIN 10 47 0 2 0 = 10", "span 1 0 1 0 0 0 ! IA", "span 1 11 1 0 0 0 ! IA",
                "span 1 1 1 0 0 1 ! IA", "span 1 1 1 0 1 1 ! IA", "span 1 1 1 0 2 1 ! IA", "span 1 1 1 0 2 -1 ! IA");
        Script.run(c, "no notes: none dropped", "choir 'singer 0 1 5;' = 1", "span 1 10 48 16 0 0 = 0", "span 1 10 48 16 1 0 = 0");
    }
}
