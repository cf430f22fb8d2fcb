import java.io.File;
import java.lang.reflect.Method;
import java.lang.reflect.Modifier;
import java.nio.file.Files;
import java.nio.file.Path;
import java.util.Set;
import java.util.TreeSet;
import java.util.regex.Matcher;
import java.util.regex.Pattern;

/** README.md tells what is so: its run answers as it says there, and it names every call and every test. */
public final class ReadmeTest {
    private static final Checks c = new Checks("ReadmeTest");
    private static final Pattern CALL =
            Pattern.compile("x\\.([a-z]+)\\((.*)\\);\\s*// (throws )?(-?\\w+)(?::.*)?");
    private static final Pattern TEXT = Pattern.compile("feed\\(x, \"([^\"]*)\"\\)");
    private static final int CALLS_TOLD = 23;

    public static void main(String[] args) throws Exception {
        String readme = Files.readString(Path.of("README.md"));
        run(readme);
        calls(readme);
        tests(readme);
        tape();
        c.end();
    }

    private static void run(String readme) {
        VowelChoir x = new VowelChoir();
        int played = 0;
        for (String line : readme.split("\n")) {
            Matcher m = CALL.matcher(line);
            if (m.matches()) {
                played++;
                play(x, line, m);
            }
        }
        c.same("calls of the run in README.md", played, CALLS_TOLD);
    }

    private static void play(VowelChoir x, String line, Matcher m) {
        String due = m.group(3) == null ? m.group(4) : "throws." + m.group(4);
        Matcher text = TEXT.matcher(m.group(2));
        int[] arguments = text.matches() ? new int[] {Checks.feed(x, text.group(1))} : numbers(m.group(2));
        String got = Checks.outcome(() -> Face.call(x, m.group(1), arguments));
        c.holds(line + " (was: " + got + ")", got.equals(due));
    }

    private static int[] numbers(String told) {
        if (told.isEmpty()) {
            return new int[0];
        }
        String[] parts = told.split(", ");
        int[] out = new int[parts.length];
        for (int i = 0; i < parts.length; i++) {
            out[i] = Integer.parseInt(parts[i]);
        }
        return out;
    }

    private static void calls(String readme) {
        for (Method m : VowelChoir.class.getDeclaredMethods()) {
            if (!Modifier.isPublic(m.getModifiers())) {
                continue;
            }
            String name = m.getName();
            c.holds("README.md names " + name, readme.contains("`" + name + "`") || readme.contains("`" + name + "("));
            if (m.getExceptionTypes().length == 0) {
                int from = readme.indexOf("- Nothing else is ever thrown.");
                int to = readme.indexOf("throw nothing", from);
                c.holds("README.md says that " + name + " throws nothing",
                        from >= 0 && to > from && readme.substring(from, to).contains("`" + name + "`"));
            }
        }
    }

    private static void tests(String readme) {
        Set<String> told = new TreeSet<>();
        Matcher m = Pattern.compile("(?m)^\\| (\\w+Test) \\|").matcher(readme);
        while (m.find()) {
            told.add(m.group(1));
        }
        Set<String> there = new TreeSet<>();
        for (String file : new File("src/test/java").list()) {
            if (file.endsWith("Test.java")) {
                there.add(file.substring(0, file.length() - ".java".length()));
            }
        }
        c.holds("README.md tells " + told + ", there are " + there, told.equals(there));
        c.holds(".ci/run can be run", new File(".ci/run").canExecute());
    }

    /** "they are never read", "the whole TAPE is empty then, whatever stood behind them, also if the text has a FAULT" */
    private static void tape() {
        for (int filler : new int[] {0, ' ', 'x', ';', 255}) {
            VowelChoir x = new VowelChoir();
            int word = filler << 24 | filler << 16 | filler << 8 | filler;
            x.feed('d' << 24 | 'a' << 16 | 'y' << 8 | ';', word, word, word, word);
            c.same("feed more", x.feed(word, word, word, word, word), 40);
            c.same("work(4), behind it " + filler, x.work(4), 1);
            c.same("the TAPE", x.count(1), 0);
            x.feed(word, word, word, word, word);
            c.same("work(20) on the filler alone", x.work(20), filler == ' ' ? 0 : -9);
            c.same("the TAPE", x.count(1), 0);
        }
    }
}
