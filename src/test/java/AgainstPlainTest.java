import java.util.ArrayList;
import java.util.List;
import java.util.Random;

/** Random runs of calls, each answered by the class and by PlainChoir. */
public final class AgainstPlainTest {
    private static final String[] ASKS = {
        "fault", "undo", "told", "singer", "note", "like", "takes", "would", "ahead", "cast", "handed", "bench",
        "benched", "wording", "wordings", "who", "listen", "duty", "range", "quarrel", "enough", "rent", "dearest",
        "voices", "sounds", "beats", "words", "mute", "idle", "alone", "longest", "chorus", "spare", "sunday", "span",
        "image", "restore", "status", "count"
    };

    private final Random random;
    private final Checks checks;
    private final int run;
    private VowelChoir x;
    private PlainChoir plain;
    private int singers;
    private int notes;

    private AgainstPlainTest(int run, Checks checks) {
        this.run = run;
        this.random = new Random(run);
        this.checks = checks;
    }

    public static void main(String[] args) {
        int runs = args.length > 0 ? Integer.parseInt(args[0]) : 1500;
        int from = args.length > 1 ? Integer.parseInt(args[1]) : 1;
        Checks checks = new Checks("AgainstPlainTest");
        for (int run = from; run < from + runs; run++) {
            new AgainstPlainTest(run, checks).go();
        }
        checks.end();
    }

    private int below(int n) {
        return random.nextInt(n);
    }

    /** Mostly a number within, now and then one that is not. */
    private int about(int least, int most) {
        int dice = below(40);
        if (dice == 0) {
            return most + 1;
        }
        if (dice == 1) {
            return least - 1;
        }
        if (dice == 2) {
            return random.nextInt();
        }
        return least + below(Math.max(1, most - least + 1));
    }

    private void go() {
        x = new VowelChoir();
        plain = new PlainChoir();
        int calls = 0;
        while (calls < 460) {
            int dice = below(100);
            if (calls == 0 || dice < 2) {
                calls += text("choir", choirText(), 600);
                singers = (int) plain.call("told", 0);
                notes = (int) plain.call("told", 1);
            } else if (dice < 6) {
                calls += text("law", lawText(), 150);
            } else if (dice < 20) {
                calls += text("work", workText(), 150);
            } else if (dice < 24) {
                calls += text("book", bookText(), 60);
            } else {
                String name = ASKS[below(ASKS.length)];
                compare(name, arguments(name));
                calls++;
            }
        }
    }

    private int text(String kind, String told, int most) {
        String text = below(6) == 0 ? spoilt(told) : told;
        if (text.length() > most && below(10) > 0) {
            text = text.substring(0, most);
        }
        int feeds = 0;
        for (int from = 0; from < text.length(); from += 20) {
            int[] five = new int[5];
            for (int i = 0; i < 20 && from + i < text.length(); i++) {
                five[i / 4] |= text.charAt(from + i) << 24 - 8 * (i % 4);
            }
            compare("feed", five);
            feeds++;
        }
        int n = below(30) == 0 ? about(0, text.length()) : text.length();
        compare(kind, n);
        compare("fault");
        compare("count", 1);
        return feeds + 3;
    }

    private String spoilt(String text) {
        StringBuilder out = new StringBuilder(text);
        int times = 1 + below(2);
        for (int k = 0; k < times; k++) {
            int at = below(out.length() + 1);
            String signs = " ;[](),+-*/%0123456789aegilnorsty" + (char) 0 + (char) 255 + (char) 160;
            char sign = signs.charAt(below(signs.length()));
            int dice = below(3);
            if (dice == 0 || at == out.length()) {
                out.insert(at, sign);
            } else if (dice == 1) {
                out.setCharAt(at, sign);
            } else {
                out.deleteCharAt(at);
            }
        }
        return out.toString();
    }

    private String gap() {
        return below(12) == 0 ? "  " : " ";
    }

    private String maybe() {
        return below(12) == 0 ? " " : "";
    }

    private String number(int least, int most) {
        String zeros = below(40) == 0 ? "00" : "";
        int value = below(150) == 0 ? most + 1 : below(150) == 0 ? Math.max(0, least - 1)
                : least + below(Math.max(1, most - least + 1));
        return zeros + value;
    }

    private String choirText() {
        StringBuilder out = new StringBuilder();
        int vowels = 1 + below(6);
        int some = below(60) == 0 ? 8 : below(8);
        int length = below(60) == 0 ? 21 : below(5) == 0 ? 20 : below(16);
        int likes = length == 0 ? 0 : below(60) == 0 ? 13 : below(13);
        int rests = below(60) == 0 ? 61 : below(3);
        for (int i = 0; i < some; i++) {
            out.append("singer").append(gap()).append(number(0, vowels - 1)).append(gap()).append(number(0, 60))
                    .append(gap()).append(number(1, 30)).append(maybe()).append(';').append(maybe());
        }
        for (int i = 0; i < length; i++) {
            out.append("note").append(maybe()).append(number(0, vowels - 1)).append(gap()).append(number(1, 9))
                    .append(';').append(maybe());
        }
        for (int i = 0; i < likes; i++) {
            out.append("like").append(gap()).append(number(0, length - 1)).append(gap()).append(number(0, vowels - 1))
                    .append(';').append(maybe());
        }
        for (int i = 0; i < rests; i++) {
            out.append("rest").append(maybe()).append(number(0, 30)).append(';').append(maybe());
        }
        return out.toString();
    }

    private String lawText() {
        String law = sum(0);
        return law.length() > 150 ? "length % 4 + sung / 3" : law;
    }

    private String sum(int deep) {
        StringBuilder out = new StringBuilder(product(deep));
        for (int k = below(3); k > 0; k--) {
            out.append(maybe()).append(below(2) == 0 ? '+' : '-').append(maybe()).append(product(deep));
        }
        return out.toString();
    }

    private String product(int deep) {
        StringBuilder out = new StringBuilder(unit(deep));
        for (int k = below(3); k > 0; k--) {
            out.append(maybe()).append("*/%".charAt(below(3))).append(maybe()).append(unit(deep));
        }
        return out.toString();
    }

    private String unit(int deep) {
        int dice = deep > 7 ? below(10) : below(15);
        String[] facts = {"length", "pay", "left", "sung", "note", "vowel", "day", "singer"};
        if (dice < 2) {
            return number(0, 999);
        }
        if (dice < 10) {
            return maybe() + facts[dice - 2];
        }
        if (dice < 13) {
            return "(" + sum(deep + 1) + maybe() + ")";
        }
        return (dice == 13 ? "least" : "most") + maybe() + "[" + sum(deep + 1) + "," + sum(deep + 1) + "]";
    }

    private String workText() {
        StringBuilder out = new StringBuilder();
        int steps = below(9);
        for (int k = 0; k < steps; k++) {
            String step = step(0);
            if (out.length() + step.length() <= 150) {
                out.append(step);
            }
        }
        return out.toString();
    }

    private String step(int deep) {
        String singer = number(0, singers - 1);
        String note = number(0, notes - 1);
        switch (below(deep > 7 ? 11 : 14)) {
            case 0: case 1: return notes > 0 ? "sing " + note + ";" : "hymn;";
            case 2: case 3: case 4: return "hymn" + maybe() + ";";
            case 5: return "rest;" + maybe();
            case 6: return singers > 0 ? "hoarse" + gap() + singer + ";" : "rest;";
            case 7: return singers > 0 ? "cure" + gap() + singer + ";" : "rest;";
            case 8: return notes > 0 ? "word" + gap() + note + gap() + number(0, 5) + ";" : "day;";
            case 9: case 10: return "day;";
            default:
                StringBuilder body = new StringBuilder();
                for (int k = below(4); k > 0; k--) {
                    body.append(step(deep + 1));
                }
                return "again" + maybe() + number(0, below(3) == 0 ? 60 : 5) + maybe() + "[" + body + "]" + ";";
        }
    }

    private String bookText() {
        StringBuilder out = new StringBuilder();
        List<Integer> left = new ArrayList<>();
        for (int n = 0; n < notes; n++) {
            left.add(n);
        }
        int heard = notes > 0 ? ~(int) plain.call("mute") : 0;
        for (int lines = below(below(4) == 0 ? 20 : 4); lines > 0 && !left.isEmpty(); lines--) {
            int n = below(30) == 0 ? left.get(0) : left.remove(below(left.size()));
            int told = below(3) == 0 ? below(2) : heard >> n & 1;
            out.append(n).append(' ').append(below(60) == 0 ? 2 : told).append(maybe()).append(';');
        }
        return out.toString();
    }

    private int[] arguments(String name) {
        switch (name) {
            case "told": return new int[] {about(0, 11)};
            case "singer": return new int[] {about(0, singers - 1), about(0, 7)};
            case "note": return new int[] {about(0, notes - 1), about(0, 3)};
            case "like": return new int[] {about(0, 11), about(0, 1)};
            case "takes": return new int[] {about(0, notes - 1), about(0, singers - 1)};
            case "would":
                return new int[] {about(1, 9), about(0, 60), about(0, 30), about(0, 9999), about(0, 19), about(0, 5),
                    about(0, 400), about(0, 6)};
            case "ahead": return new int[] {about(0, 20), about(0, 2)};
            case "handed": return new int[] {about(0, 5), about(0, 5)};
            case "benched": case "duty": case "range": return new int[] {about(0, singers - 1)};
            case "wordings": return new int[] {below(3) == 0 ? 63 : about(0, 63)};
            case "quarrel": return new int[] {about(0, 99), below(3) == 0 ? 0 : about(0, 99), about(0, 2)};
            case "enough": return new int[] {about(0, 12), about(0, 13), about(0, 16), about(0, 1)};
            case "rent":
                return new int[] {about(0, singers - 1), about(0, (1 << singers) - 1), about(0, below(3) == 0 ? 999 : 99)};
            case "voices": case "sounds": case "beats": case "alone": return new int[] {about(0, 5)};
            case "words": return new int[] {about(0, notes - 1)};
            case "chorus": return new int[] {about(0, (1 << singers) - 1)};
            case "sunday": return new int[] {random.nextInt(), about(1, 48), about(0, 16), about(0, 3)};
            case "span":
                return new int[] {random.nextInt(), about(1, 4), about(1, 20), about(0, 16), about(0, 2),
                    about(0, singers - 1)};
            case "who": case "listen": case "dearest": case "longest": case "spare": return new int[] {about(0, 1)};
            case "status": case "count": return new int[] {about(0, 2)};
            default: return new int[0];
        }
    }

    private void compare(String name, int... a) {
        String due = Checks.outcome(() -> plain.call(name, a));
        String got = Checks.outcome(() -> Face.call(x, name, a));
        if (!due.equals(got)) {
            System.out.println("run " + run + ": " + name + java.util.Arrays.toString(a) + " answered " + got
                    + ", due is " + due);
        }
        checks.holds("run " + run + " " + name, due.equals(got));
    }
}
