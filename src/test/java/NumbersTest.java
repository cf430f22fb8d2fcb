/** Promises 26 to 28: QUARREL, ENOUGH, RENT. */
public final class NumbersTest {
    private static final Checks c = new Checks("NumbersTest");

    public static void main(String[] args) {
        quarrel();
        enough();
        rent();
        c.end();
    }

    private static void quarrels(int v, int w, int rests, int first, int together) {
        VowelChoir x = new VowelChoir();
        c.same("rests of " + v + ", " + w, x.quarrel(v, w, 0), rests);
        c.same("first of " + v + ", " + w, x.quarrel(v, w, 1), first);
        c.same("together of " + v + ", " + w, x.quarrel(v, w, 2), together);
    }

    private static void quarrel() {
        quarrels(0, 0, 4, 0, 0);
        quarrels(99, 0, 4, 0, 198);
        quarrels(0, 1, 2, 1, 1);
        quarrels(5, 3, 2, 1, 8);
        quarrels(99, 99, 2, 1, 198);
        VowelChoir x = new VowelChoir();
        for (int bad : new int[] {-1, 100}) {
            c.refuses(x, "quarrel v", () -> x.quarrel(bad, 0, 0));
            c.refuses(x, "quarrel w", () -> x.quarrel(0, bad, 0));
        }
        c.refuses(x, "quarrel what", () -> x.quarrel(0, 0, 3));
        c.refuses(x, "quarrel what", () -> x.quarrel(0, 0, -1));
    }

    private static void likely(int n, int k, int q, long above, long below) {
        VowelChoir x = new VowelChoir();
        c.same("enough above " + n + ", " + k + ", " + q, x.enough(n, k, q, 0), above);
        c.same("enough below " + n + ", " + k + ", " + q, x.enough(n, k, q, 1), below);
    }

    private static void enough() {
        likely(0, 0, 0, 1, 1);
        likely(0, 0, 16, 1, 1);
        likely(0, 1, 0, 0, 1);
        likely(1, 1, 4, 3, 4);
        likely(1, 0, 4, 1, 1);
        likely(1, 2, 4, 0, 1);
        likely(2, 1, 8, 3, 4);
        likely(2, 2, 8, 1, 4);
        likely(2, 1, 1, 255, 256);
        // 3 * (13/16)^2 * 3/16 + (13/16)^3
        likely(3, 2, 3, (3 * 169 * 3 + 2197) / 2, 4096 / 2);
        likely(12, 12, 0, 1, 1);
        likely(12, 13, 0, 0, 1);
        likely(12, 1, 16, 0, 1);
        likely(12, 0, 16, 1, 1);
        likely(12, 12, 15, 1, 281474976710656L);
        likely(12, 3, 5, 281390298976281L, 281474976710656L);
        likely(12, 6, 8, 2510 / 2, 4096 / 2);
        VowelChoir x = new VowelChoir();
        c.refuses(x, "enough n", () -> x.enough(13, 0, 0, 0));
        c.refuses(x, "enough n", () -> x.enough(-1, 0, 0, 0));
        c.refuses(x, "enough k", () -> x.enough(0, 14, 0, 0));
        c.refuses(x, "enough k", () -> x.enough(0, -1, 0, 0));
        c.refuses(x, "enough q", () -> x.enough(0, 0, 17, 0));
        c.refuses(x, "enough q", () -> x.enough(0, 0, -1, 0));
        c.refuses(x, "enough part", () -> x.enough(0, 0, 0, 2));
        c.refuses(x, "enough part", () -> x.enough(0, 0, 0, -1));
    }

    private static void shares(VowelChoir x, int singers, int n, int... due) {
        for (int i = 0; i < due.length; i++) {
            c.same("rent(" + i + ", " + singers + ", " + n + ")", x.rent(i, singers, n), due[i]);
        }
    }

    private static void rent() {
        VowelChoir x = Checks.told("singer 0 5 6;singer 1 9 4;singer 0 3 9;singer 2 9 2;singer 2 0 2;singer 2 60 2;");
        shares(x, 15, 20, 5, 6, 3, 6, 0, 0);
        shares(x, 15, 21, 5, 6, 3, 6, 0, 0);
        shares(x, 15, 22, 5, 7, 3, 7, 0, 0);
        shares(x, 15, 25, 5, 8, 3, 8, 0, 0);
        shares(x, 15, 26, 5, 9, 3, 9, 0, 0);
        shares(x, 15, 999, 5, 9, 3, 9, 0, 0);
        shares(x, 15, 3, 0, 0, 0, 0, 0, 0);
        shares(x, 15, 4, 1, 1, 1, 1, 0, 0);
        shares(x, 0, 9, 0, 0, 0, 0, 0, 0);
        shares(x, 63, 0, 0, 0, 0, 0, 0, 0);
        shares(x, 63, 85, 5, 9, 3, 9, 0, 59);
        shares(x, 63, 86, 5, 9, 3, 9, 0, 60);
        shares(x, 32, 7, 0, 0, 0, 0, 0, 7);
        c.missing(x, "rent(6, ..)", () -> x.rent(6, 15, 20));
        c.missing(x, "rent(-1, ..)", () -> x.rent(-1, 15, 20));
        c.missing(x, "rent(6, ..) ahead of others", () -> x.rent(6, 64, 1000));
        c.refuses(x, "rent of bits of none", () -> x.rent(0, 64, 20));
        c.refuses(x, "rent of bits of none", () -> x.rent(0, -1, 20));
        c.refuses(x, "rent of bits of none", () -> x.rent(0, 1 << 31 | 1, 20));
        c.refuses(x, "rent n", () -> x.rent(0, 1, 1000));
        c.refuses(x, "rent n", () -> x.rent(0, 2, -1));
    }
}
