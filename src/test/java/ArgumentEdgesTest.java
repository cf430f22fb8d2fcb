import java.util.ArrayList;
import java.util.List;

/**
 * From where to where each argument of each call goes: the last value that is taken and the first that is not, on
 * each side; which exception comes, and which of two; that it is counted once (promise 44); in a choir that is empty,
 * in a small one and in a full one.
 */
public final class ArgumentEdgesTest {
    private static final Checks c = new Checks("ArgumentEdgesTest");

    /** An argument: from least to most; the exception for another one, NS or IA. */
    private static final class Argument {
        final long least;
        final long most;
        final String thrown;

        Argument(long least, long most, String thrown) {
            this.least = least;
            this.most = most;
            this.thrown = thrown;
        }

        boolean takes(long value) {
            return value >= least && value <= most;
        }

        boolean takesAny() {
            return least <= most;
        }

        /** The edges, what is next to them, and the ends of all numbers; those alone that are told so. */
        List<Integer> values(boolean taken) {
            List<Integer> out = new ArrayList<>();
            long[] all = {least, most, least - 1, most + 1, Integer.MIN_VALUE, Integer.MAX_VALUE, 0, -1};
            for (long value : all) {
                boolean number = value >= Integer.MIN_VALUE && value <= Integer.MAX_VALUE;
                if (number && takes(value) == taken && !out.contains((int) value)) {
                    out.add((int) value);
                }
            }
            return out;
        }
    }

    private final String choir;
    private final int singers;
    private final int notes;
    private final int likes;

    private ArgumentEdgesTest(String choir, int singers, int notes, int likes) {
        this.choir = choir;
        this.singers = singers;
        this.notes = notes;
        this.likes = likes;
    }

    public static void main(String[] args) {
        String full = Script.times(7, "singer 0 1 9;") + Script.times(20, "note 0 1;") + Script.times(12, "like 0 5;");
        new ArgumentEdgesTest("", 0, 0, 0).calls();
        new ArgumentEdgesTest("singer 0 1 9;", 1, 0, 0).calls();
        new ArgumentEdgesTest("note 0 1;", 0, 1, 0).calls();
        new ArgumentEdgesTest("singer 0 1 9;singer 1 2 8;note 0 1;note 1 2;note 0 3;like 2 1;", 2, 3, 1).calls();
        new ArgumentEdgesTest(full, 7, 20, 12).calls();
        neverRefused();
        textsAreCounted();
        c.end();
    }

    private static Argument wanted(long least, long most) {
        return new Argument(least, most, "IA");
    }

    private Argument singer() {
        return new Argument(0, singers - 1, "NS");
    }

    private Argument note() {
        return new Argument(0, notes - 1, "NS");
    }

    private Argument someSingers() {
        return wanted(0, (1 << singers) - 1);
    }

    private static Argument vowel() {
        return wanted(0, 5);
    }

    private static Argument any() {
        return wanted(Integer.MIN_VALUE, Integer.MAX_VALUE);
    }

    private void calls() {
        call("told", wanted(0, 11));
        call("singer", singer(), wanted(0, 7));
        call("note", note(), wanted(0, 3));
        call("like", new Argument(0, likes - 1, "NS"), wanted(0, 1));
        call("takes", note(), singer());
        call("would", wanted(1, 9), wanted(0, 60), wanted(0, 30), wanted(0, 9999), wanted(0, 19), vowel(), wanted(0, 400),
                wanted(0, 6));
        call("ahead", wanted(0, 20), wanted(0, 2));
        call("handed", vowel(), vowel());
        call("benched", wanted(0, Integer.MAX_VALUE));
        call("wordings", wanted(0, 63));
        call("who", wanted(0, 1));
        call("listen", wanted(0, 1));
        call("duty", singer());
        call("range", singer());
        call("quarrel", wanted(0, 99), wanted(0, 99), wanted(0, 2));
        call("enough", wanted(0, 12), wanted(0, 13), wanted(0, 16), wanted(0, 1));
        call("rent", singer(), someSingers(), wanted(0, 999));
        call("dearest", wanted(0, 1));
        call("voices", vowel());
        call("sounds", vowel());
        call("beats", vowel());
        call("words", note());
        call("alone", vowel());
        call("longest", wanted(0, 1));
        call("chorus", someSingers());
        call("spare", wanted(0, 1));
        call("sunday", any(), wanted(1, 48), wanted(0, 16), wanted(0, 3));
        call("span", any(), wanted(1, 10), wanted(1, 48), wanted(0, 16), wanted(0, 2), wanted(0, singers - 1));
    }

    private void call(String name, Argument... all) {
        for (int i = 0; i < all.length; i++) {
            oneAtAnEdge(name, all, i);
            for (int k = i + 1; k < all.length; k++) {
                twoWrong(name, all, i, k);
            }
        }
        allWrong(name, all);
    }

    /** Arguments that are taken, as far as there are any: all at their least, or all at their most. */
    private static int[] base(Argument[] all, boolean least) {
        int[] out = new int[all.length];
        for (int i = 0; i < all.length; i++) {
            out[i] = (int) (!all[i].takesAny() ? 0 : least ? all[i].least : all[i].most);
        }
        return out;
    }

    private void oneAtAnEdge(String name, Argument[] all, int i) {
        for (boolean least : new boolean[] {true, false}) {
            for (boolean taken : new boolean[] {true, false}) {
                for (int value : all[i].values(taken)) {
                    int[] arguments = base(all, least);
                    arguments[i] = value;
                    ask(name, all, arguments);
                }
            }
        }
    }

    private void twoWrong(String name, Argument[] all, int i, int k) {
        for (int one : all[i].values(false)) {
            for (int other : all[k].values(false)) {
                int[] arguments = base(all, true);
                arguments[i] = one;
                arguments[k] = other;
                ask(name, all, arguments);
            }
        }
    }

    private void allWrong(String name, Argument[] all) {
        int[] arguments = base(all, true);
        for (int i = 0; i < all.length; i++) {
            List<Integer> wrong = all[i].values(false);
            arguments[i] = wrong.isEmpty() ? arguments[i] : wrong.get(0);
        }
        ask(name, all, arguments);
    }

    /** NoSuchElementException comes ahead of others; without either the call answers. */
    private static String due(Argument[] all, int[] arguments) {
        String out = "";
        for (int i = 0; i < all.length; i++) {
            if (!all[i].takes(arguments[i]) && !out.equals("NS")) {
                out = all[i].thrown;
            }
        }
        return out;
    }

    private void ask(String name, Argument[] all, int[] arguments) {
        String told = name + java.util.Arrays.toString(arguments) + " of '" + choir + "'";
        VowelChoir x = Checks.told(choir);
        String due = due(all, arguments);
        String got = Checks.outcome(() -> Face.call(x, name, arguments));
        if (due.isEmpty()) {
            c.holds(told + " is taken (was: " + got + ")", !got.startsWith("throws."));
        } else {
            String thrown = due.equals("NS") ? "throws.NoSuchElementException" : "throws.IllegalArgumentException";
            c.holds(told + " is " + thrown + " (was: " + got + ")", got.equals(thrown));
        }
        c.same("status(0) behind " + told, x.status(0), due.equals("NS") ? 1 : 0);
        c.same("status(1) behind " + told, x.status(1), due.equals("IA") ? 1 : 0);
    }

    // Promises 44, 45: "NONE for others"; these, and the calls without arguments, throw nothing at all.
    private static void neverRefused() {
        int[] others = {2, 3, -1, 4, 9, Integer.MIN_VALUE, Integer.MAX_VALUE};
        for (int what : others) {
            Script.run(c, "status", "status " + what + " = -1");
            Script.run(c, "count", what == 2 ? "count 2 = 0" : "count " + what + " = -1");
        }
        Script.run(c, "no arguments", "fault = -1", "undo = -1", "cast = 0", "bench = 0", "wording = 0", "mute = 0",
                "idle = 0", "image = 1", "restore = 0", "feed MIN MAX -1 0 1 = 20", "status 0 = 0", "status 1 = 0");
    }

    // Promise 44: "How many calls were refused": also those of texts; a FAULT, NONE and -1 are answers.
    private static void textsAreCounted() {
        Script.run(c, "texts", "choir 1 ! IA", "law 1 ! IA", "work 1 ! IA", "book 1 ! IA", "status 1 = 4", "status 0 = 0",
                "choir 'x' = -9 @ 0", "law 'x' = -9 @ 0", "work 'x' = -9 @ 0", "book 'x' = -9 @ 0", "undo = -1",
                "restore = -1", "benched 0 = -1", "dearest 0 = -1", "work 'rest;' = 0", "status 1 = 4", "status 0 = 0");
    }
}
