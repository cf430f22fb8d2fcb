import java.util.NoSuchElementException;

/** What the tests share: telling texts, and counting answers that are not as due. */
final class Checks {
    interface Call {
        long answer();
    }

    private final String name;
    private int asked;
    private int wrong;

    Checks(String name) {
        this.name = name;
    }

    void same(String call, long got, long due) {
        asked++;
        if (got != due) {
            wrong++;
            System.out.println(name + ": " + call + " answered " + got + ", due is " + due);
        }
    }

    void holds(String what, boolean is) {
        same(what, is ? 1 : 0, 1);
    }

    /** The call throws NoSuchElementException, and that alone is counted. */
    void missing(VowelChoir x, String call, Call made) {
        refused(x, call, made, "NoSuchElementException", 1, 0);
    }

    /** The call throws IllegalArgumentException, and that alone is counted. */
    void refuses(VowelChoir x, String call, Call made) {
        refused(x, call, made, "IllegalArgumentException", 0, 1);
    }

    private void refused(VowelChoir x, String call, Call made, String due, int missing, int refused) {
        int missingBefore = x.status(0);
        int refusedBefore = x.status(1);
        String got = outcome(made);
        holds(call + " throws " + due + " (was: " + got + ")", got.equals("throws." + due));
        same("status(0) behind " + call, x.status(0), missingBefore + missing);
        same("status(1) behind " + call, x.status(1), refusedBefore + refused);
    }

    static String outcome(Call made) {
        try {
            return Long.toString(made.answer());
        } catch (NoSuchElementException e) {
            return e.getClass() == NoSuchElementException.class ? "throws.NoSuchElementException" : "throws." + e;
        } catch (IllegalArgumentException e) {
            return e.getClass() == IllegalArgumentException.class ? "throws.IllegalArgumentException" : "throws." + e;
        } catch (RuntimeException e) {
            return "throws." + e;
        }
    }

    /** Feeds the text, made up to whole feeds of twenty bytes with zeros: how many bytes the text has. */
    static int feed(VowelChoir x, String text) {
        for (int from = 0; from < text.length(); from += 20) {
            int[] five = new int[5];
            for (int i = 0; i < 20; i++) {
                int sign = from + i < text.length() ? text.charAt(from + i) : 0;
                five[i / 4] |= sign << 24 - 8 * (i % 4);
            }
            x.feed(five[0], five[1], five[2], five[3], five[4]);
        }
        return text.length();
    }

    static int choir(VowelChoir x, String text) {
        return x.choir(feed(x, text));
    }

    static int law(VowelChoir x, String text) {
        return x.law(feed(x, text));
    }

    static int work(VowelChoir x, String text) {
        return x.work(feed(x, text));
    }

    static int book(VowelChoir x, String text) {
        return x.book(feed(x, text));
    }

    static VowelChoir told(String text) {
        VowelChoir x = new VowelChoir();
        choir(x, text);
        return x;
    }

    void end() {
        System.out.println(name + ": " + asked + " answers, " + wrong + " not as due");
        if (wrong > 0) {
            System.exit(1);
        }
    }
}
