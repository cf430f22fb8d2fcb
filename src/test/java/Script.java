import java.util.ArrayList;
import java.util.List;
import java.util.regex.Matcher;
import java.util.regex.Pattern;

/**
 * A run of calls on one new object, told in lines, each with the answer that is due:
 * <pre>
 *   singer 0 3 = 9              the call answers
 *   singer 7 0 ! NS             it throws NoSuchElementException (IA: IllegalArgumentException)
 *   feed 'day;' = 20            the text comes on the TAPE, made up to whole feeds with zeros
 *   work 'day;' = 1             the text is fed and read, all of it; behind it fault() is NONE
 *   law '1+' = -9 @ 2           likewise, and fault() is 2
 * </pre>
 * MIN and MAX are the least and the greatest int. Behind each call that throws, and at the end, status() must tell
 * what was thrown by then and no more. PlainChoir gets the same calls, so that what is due is looked at twice. An
 * object is used for 512 calls at most, as the document says.
 */
final class Script {
    private static final int MOST_CALLS = 512;
    private static final Pattern LINE =
            Pattern.compile("([a-z]+)(?: '([^']*)')?((?: -?\\w+)*) ([=!]) (\\S+)(?: @ (-?\\d+))?", Pattern.DOTALL);

    private final Checks checks;
    private final String name;
    private final VowelChoir x = new VowelChoir();
    private final PlainChoir plain = new PlainChoir();
    private int calls;
    private int missing;
    private int refused;

    private Script(Checks checks, String name) {
        this.checks = checks;
        this.name = name;
    }

    /** Plays the lines on a new object. */
    static void run(Checks checks, String name, String... lines) {
        Script script = new Script(checks, name);
        for (String line : lines) {
            script.play(line);
        }
        script.status("the end");
        checks.holds(name + ": " + script.calls + " calls are no more than " + MOST_CALLS, script.calls <= MOST_CALLS);
    }

    /** As run, with the lines of both rows. */
    static void run(Checks checks, String name, String[] first, String... then) {
        List<String> lines = new ArrayList<>(List.of(first));
        lines.addAll(List.of(then));
        run(checks, name, lines.toArray(new String[0]));
    }

    static String times(int n, String text) {
        return text.repeat(n);
    }

    private void play(String line) {
        Matcher m = LINE.matcher(line);
        if (!m.matches()) {
            throw new IllegalStateException("no line of a script: " + line);
        }
        String call = m.group(1);
        String text = m.group(2);
        int[] arguments = numbers(m.group(3));
        String due = m.group(4).equals("=") ? m.group(5) : thrown(m.group(5));
        if (call.equals("feed") && text != null) {
            feed(line, text, due);
            return;
        }
        if (text != null) {
            feed(line, text, null);
            arguments = new int[] {text.length()};
        }
        expect(line, call, arguments, due);
        if (text != null) {
            expect(line + ": fault()", "fault", new int[0], m.group(6) == null ? "-1" : m.group(6));
        }
    }

    private static int[] numbers(String text) {
        String[] parts = text.trim().split(" +");
        if (parts[0].isEmpty()) {
            return new int[0];
        }
        int[] out = new int[parts.length];
        for (int i = 0; i < parts.length; i++) {
            out[i] = parts[i].equals("MIN") ? Integer.MIN_VALUE
                    : parts[i].equals("MAX") ? Integer.MAX_VALUE : Integer.parseInt(parts[i]);
        }
        return out;
    }

    private String thrown(String kind) {
        if (kind.equals("NS")) {
            missing++;
            return "throws.NoSuchElementException";
        }
        if (kind.equals("IA")) {
            refused++;
            return "throws.IllegalArgumentException";
        }
        throw new IllegalStateException("neither NS nor IA: " + kind);
    }

    private void feed(String line, String text, String due) {
        for (int from = 0; from < text.length(); from += 20) {
            int[] five = new int[5];
            for (int i = 0; i < 20; i++) {
                int sign = from + i < text.length() ? text.charAt(from + i) : 0;
                five[i / 4] |= sign << 24 - 8 * (i % 4);
            }
            boolean last = from + 20 >= text.length();
            String got = answer("feed", five);
            if (last && due != null) {
                checks.holds(name + ": " + line + " (was: " + got + ")", got.equals(due));
            }
        }
    }

    private void expect(String line, String call, int[] arguments, String due) {
        String got = answer(call, arguments);
        checks.holds(name + ": " + line + " (was: " + got + ")", got.equals(due));
        if (due.startsWith("throws.")) {
            status(line);
        }
    }

    private String answer(String call, int[] arguments) {
        calls++;
        String got = Checks.outcome(() -> Face.call(x, call, arguments));
        String second = Checks.outcome(() -> plain.call(call, arguments));
        checks.holds(name + ": " + call + " is " + second + " by PlainChoir (was: " + got + ")", got.equals(second));
        return got;
    }

    private void status(String when) {
        calls += 2;
        checks.same(name + ": status(0) behind " + when, x.status(0), missing);
        checks.same(name + ": status(1) behind " + when, x.status(1), refused);
    }
}
