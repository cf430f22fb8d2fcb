import java.util.ArrayList;
import java.util.List;
import java.util.NoSuchElementException;
import java.util.TreeMap;

/**
 * The document once more, written as slowly and plainly as can be, apart from the class: the random runs compare
 * the two. It reads texts by tokens, keeps whole copies of all that changes, and tries out all that there is.
 */
final class PlainChoir {
    private static final class Fault extends RuntimeException {
        private static final long serialVersionUID = 1L;
        final int kind;
        final int place;

        Fault(int kind, int place) {
            super("fault " + kind + " at " + place);
            this.kind = kind;
            this.place = place;
        }
    }

    private static final class Token {
        final char type; // 'a' a word, '0' a number, 's' a sign, 'e' the end
        final String text;
        final int place;

        Token(char type, String text, int place) {
            this.type = type;
            this.text = text;
            this.place = place;
        }
    }

    private interface Value {
        int of(TreeMap<String, Integer> facts);
    }

    private static final class Told {
        final List<int[]> singers = new ArrayList<>();
        final List<int[]> notes = new ArrayList<>();
        final List<int[]> likes = new ArrayList<>();
        int rest = 5;
    }

    private static final class State {
        int day;
        int dropped;
        List<Boolean> hoarse = new ArrayList<>();
        List<Integer> left = new ArrayList<>();
        List<Integer> sang = new ArrayList<>();
        List<Integer> owed = new ArrayList<>();
        List<Integer> today = new ArrayList<>();
        List<Integer> vowels = new ArrayList<>();

        State copy() {
            State s = new State();
            s.day = day;
            s.dropped = dropped;
            s.hoarse = new ArrayList<>(hoarse);
            s.left = new ArrayList<>(left);
            s.sang = new ArrayList<>(sang);
            s.owed = new ArrayList<>(owed);
            s.today = new ArrayList<>(today);
            s.vowels = new ArrayList<>(vowels);
            return s;
        }
    }

    private static final class Image {
        State state;
        List<State> works;
    }

    private static final class Step {
        String word;
        int first;
        int second;
        List<Step> body = new ArrayList<>();
    }

    private final List<Integer> tape = new ArrayList<>();
    private Told told = new Told();
    private Value law = f -> f.get("length");
    private TreeMap<Integer, Integer> book = new TreeMap<>();
    private State now = new State();
    private List<State> works = new ArrayList<>();
    private List<Image> images = new ArrayList<>();
    private int refusedSteps;
    private int faultPlace = -1;
    private int missing;
    private int refused;

    private List<Token> tokens;
    private int token;

    private static List<Token> split(List<Integer> bytes) {
        List<Token> out = new ArrayList<>();
        int i = 0;
        while (i < bytes.size()) {
            int c = bytes.get(i);
            int from = i;
            StringBuilder text = new StringBuilder();
            if (c == ' ') {
                i++;
                continue;
            }
            if (c >= 'a' && c <= 'z') {
                while (i < bytes.size() && bytes.get(i) >= 'a' && bytes.get(i) <= 'z') {
                    text.append((char) (int) bytes.get(i++));
                }
                out.add(new Token('a', text.toString(), from));
            } else if (c >= '0' && c <= '9') {
                while (i < bytes.size() && bytes.get(i) >= '0' && bytes.get(i) <= '9') {
                    text.append((char) (int) bytes.get(i++));
                }
                out.add(new Token('0', text.toString(), from));
            } else {
                i++;
                out.add(new Token('s', "" + (char) c, from));
            }
        }
        out.add(new Token('e', "", bytes.size()));
        return out;
    }

    private Token peek() {
        return tokens.get(token);
    }

    private Token next() {
        return tokens.get(token++);
    }

    private boolean ended() {
        return peek().type == 'e';
    }

    private boolean isSign(String s) {
        return peek().type == 's' && peek().text.equals(s);
    }

    private void sign(String s) {
        if (!isSign(s)) {
            throw new Fault(1, peek().place);
        }
        next();
    }

    private int number(int least, int most) {
        if (peek().type != '0') {
            throw new Fault(1, peek().place);
        }
        java.math.BigInteger value = new java.math.BigInteger(peek().text);
        if (value.compareTo(java.math.BigInteger.valueOf(least)) < 0
                || value.compareTo(java.math.BigInteger.valueOf(most)) > 0) {
            throw new Fault(2, peek().place);
        }
        next();
        return value.intValue();
    }

    private Told readChoir() {
        Told t = new Told();
        int clauses = 0;
        while (!ended()) {
            Token w = next();
            String word = w.type == 'a' ? w.text : "";
            if (!List.of("singer", "note", "like", "rest").contains(word)) {
                throw new Fault(1, w.place);
            }
            clauses++;
            boolean many = clauses > 60 || word.equals("singer") && t.singers.size() == 7
                    || word.equals("note") && t.notes.size() == 20 || word.equals("like") && t.likes.size() == 12;
            if (many) {
                throw new Fault(3, w.place);
            }
            if (word.equals("singer")) {
                t.singers.add(new int[] {number(0, 5), number(0, 60), number(1, 30)});
            } else if (word.equals("note")) {
                t.notes.add(new int[] {number(0, 5), number(1, 9)});
            } else if (word.equals("like")) {
                t.likes.add(new int[] {number(0, t.notes.size() - 1), number(0, 5)});
            } else {
                t.rest = number(0, 30);
            }
            sign(";");
        }
        return t;
    }

    private Value readSum(int open) {
        Value v = readProduct(open);
        while (isSign("+") || isSign("-")) {
            Value a = v;
            boolean plus = next().text.equals("+");
            Value b = readProduct(open);
            v = plus ? f -> a.of(f) + b.of(f) : f -> a.of(f) - b.of(f);
        }
        return v;
    }

    private Value readProduct(int open) {
        Value v = readUnit(open);
        while (isSign("*") || isSign("/") || isSign("%")) {
            Value a = v;
            String op = next().text;
            Value b = readUnit(open);
            if (op.equals("*")) {
                v = f -> a.of(f) * b.of(f);
            } else if (op.equals("/")) {
                v = f -> b.of(f) == 0 ? 0 : a.of(f) / b.of(f);
            } else {
                v = f -> b.of(f) == 0 ? 0 : a.of(f) % b.of(f);
            }
        }
        return v;
    }

    private Value readUnit(int open) {
        Token t = peek();
        if (t.type == '0') {
            int n = number(0, 999);
            return f -> n;
        }
        boolean pair = t.type == 'a' && (t.text.equals("least") || t.text.equals("most"));
        if (pair || isSign("(")) {
            if (open == 6) {
                throw new Fault(3, t.place);
            }
            next();
            if (!pair) {
                Value v = readSum(open + 1);
                sign(")");
                return v;
            }
            sign("[");
            Value a = readSum(open + 1);
            sign(",");
            Value b = readSum(open + 1);
            sign("]");
            return t.text.equals("least") ? f -> Math.min(a.of(f), b.of(f)) : f -> Math.max(a.of(f), b.of(f));
        }
        List<String> facts = List.of("length", "pay", "left", "sung", "note", "vowel", "day", "singer");
        if (t.type != 'a' || !facts.contains(t.text)) {
            throw new Fault(1, t.place);
        }
        next();
        return f -> f.get(t.text);
    }

    private List<Step> readSteps(int open) {
        List<Step> out = new ArrayList<>();
        while (!ended() && !(open > 0 && isSign("]"))) {
            Token t = next();
            Step s = new Step();
            s.word = t.type == 'a' ? t.text : "";
            switch (s.word) {
                case "hymn":
                case "rest":
                case "day":
                    break;
                case "sing":
                    s.first = number(0, told.notes.size() - 1);
                    break;
                case "hoarse":
                case "cure":
                    s.first = number(0, told.singers.size() - 1);
                    break;
                case "word":
                    s.first = number(0, told.notes.size() - 1);
                    s.second = number(0, 5);
                    break;
                case "again":
                    if (open == 6) {
                        throw new Fault(3, t.place);
                    }
                    s.first = number(0, 60);
                    sign("[");
                    s.body = readSteps(open + 1);
                    sign("]");
                    break;
                default:
                    throw new Fault(1, t.place);
            }
            sign(";");
            out.add(s);
        }
        return out;
    }

    private TreeMap<Integer, Integer> readBook() {
        TreeMap<Integer, Integer> out = new TreeMap<>();
        while (!ended()) {
            int place = peek().place;
            int n = number(0, told.notes.size() - 1);
            if (out.containsKey(n)) {
                throw new Fault(2, place);
            }
            out.put(n, number(0, 1));
            sign(";");
        }
        return out;
    }

    private int takes(State s, int note, int singer) {
        TreeMap<String, Integer> f = new TreeMap<>();
        f.put("length", told.notes.get(note)[1]);
        f.put("pay", told.singers.get(singer)[1]);
        f.put("left", s.left.get(singer));
        f.put("sung", s.sang.get(singer));
        f.put("note", note);
        f.put("vowel", s.vowels.get(note));
        f.put("day", s.day);
        f.put("singer", singer);
        return Math.max(0, Math.min(30, law.of(f)));
    }

    private int sungBy(State s, int note) {
        for (int i = 0; i < told.singers.size(); i++) {
            if (told.singers.get(i)[0] == s.vowels.get(note) && !s.hoarse.get(i)
                    && takes(s, note, i) <= s.left.get(i)) {
                return i;
            }
        }
        return -1;
    }

    private boolean sing(State s, int note) {
        int i = sungBy(s, note);
        if (i < 0) {
            return false;
        }
        s.left.set(i, s.left.get(i) - takes(s, note, i));
        s.sang.set(i, s.sang.get(i) + 1);
        s.today.set(i, s.today.get(i) + 1);
        return true;
    }

    /** Which singer sang each note, -1 where it was dropped. */
    private int[] hymn(State s) {
        int[] by = new int[told.notes.size()];
        for (int n = 0; n < by.length; n++) {
            by[n] = sungBy(s, n);
            if (!sing(s, n)) {
                s.dropped++;
            }
        }
        return by;
    }

    private boolean rest(State s) {
        boolean any = false;
        for (int i = 0; i < told.singers.size(); i++) {
            int breath = told.singers.get(i)[2];
            any |= s.left.get(i) != breath;
            s.left.set(i, Math.min(breath, s.left.get(i) + told.rest));
        }
        return any;
    }

    private void day(State s) {
        for (int i = 0; i < told.singers.size(); i++) {
            s.left.set(i, told.singers.get(i)[2]);
            if (s.today.get(i) != 0) {
                s.owed.set(i, Math.min(9999, s.owed.get(i) + told.singers.get(i)[1]));
            }
            s.today.set(i, 0);
        }
        s.day++;
    }

    private boolean mayWord(int note, int vowel) {
        if (told.notes.get(note)[0] == vowel) {
            return true;
        }
        for (int[] like : told.likes) {
            if (like[0] == note && like[1] == vowel) {
                return true;
            }
        }
        return false;
    }

    private boolean does(State s, Step step) {
        switch (step.word) {
            case "sing":
                return sing(s, step.first);
            case "hymn":
                hymn(s);
                return true;
            case "rest":
                return rest(s);
            case "hoarse":
            case "cure":
                boolean wish = step.word.equals("hoarse");
                if (s.hoarse.get(step.first) == wish) {
                    return false;
                }
                s.hoarse.set(step.first, wish);
                return true;
            case "word":
                if (s.vowels.get(step.first) == step.second || !mayWord(step.first, step.second)) {
                    return false;
                }
                s.vowels.set(step.first, step.second);
                return true;
            default:
                if (s.day == 400) {
                    return false;
                }
                day(s);
                return true;
        }
    }

    private int begun;
    private int done;

    private void run(State s, List<Step> steps) {
        for (Step step : steps) {
            if (begun == 200) {
                return;
            }
            begun++;
            if (step.word.equals("again")) {
                for (int k = 0; k < step.first; k++) {
                    run(s, step.body);
                }
            } else if (does(s, step)) {
                done++;
            } else {
                refusedSteps++;
            }
        }
    }

    private State fresh() {
        State s = new State();
        for (int[] singer : told.singers) {
            s.hoarse.add(false);
            s.left.add(singer[2]);
            s.sang.add(0);
            s.owed.add(0);
            s.today.add(0);
        }
        for (int[] note : told.notes) {
            s.vowels.add(note[0]);
        }
        return s;
    }

    private State withHoarse(int bits) {
        State s = now.copy();
        for (int i = 0; i < told.singers.size(); i++) {
            s.hoarse.set(i, (bits >> i & 1) == 1);
        }
        return s;
    }

    private int heard(int hoarse) {
        int[] by = hymn(withHoarse(hoarse));
        int bits = 0;
        for (int n = 0; n < by.length; n++) {
            bits |= by[n] >= 0 ? 1 << n : 0;
        }
        return bits;
    }

    private List<Integer> fitting(TreeMap<Integer, Integer> lines) {
        List<Integer> out = new ArrayList<>();
        for (int set = 0; set < 1 << told.singers.size(); set++) {
            int heard = heard(set);
            boolean fits = true;
            for (int n : lines.keySet()) {
                fits &= (heard >> n & 1) == lines.get(n);
            }
            if (fits) {
                out.add(set);
            }
        }
        return out;
    }

    private static int sum(List<Integer> row) {
        int out = 0;
        for (int x : row) {
            out += x;
        }
        return out;
    }

    private static int bits(List<Boolean> row) {
        int out = 0;
        for (int i = 0; i < row.size(); i++) {
            out |= row.get(i) ? 1 << i : 0;
        }
        return out;
    }

    private void must(boolean ok) {
        if (!ok) {
            refused++;
            throw new IllegalArgumentException();
        }
    }

    private void mustBe(boolean there) {
        if (!there) {
            missing++;
            throw new NoSuchElementException();
        }
    }

    private static boolean in(int x, int least, int most) {
        return least <= x && x <= most;
    }

    private boolean isSinger(int i) {
        return in(i, 0, told.singers.size() - 1);
    }

    private boolean isNote(int i) {
        return in(i, 0, told.notes.size() - 1);
    }

    private boolean areSingers(int bits) {
        for (int i = 0; i < 32; i++) {
            if ((bits >>> i & 1) == 1 && !isSinger(i)) {
                return false;
            }
        }
        return true;
    }

    private long text(String kind, int n, int most) {
        must(in(n, 0, Math.min(most, tape.size())));
        tokens = split(tape.subList(0, n));
        token = 0;
        tape.clear();
        faultPlace = -1;
        if (kind.equals("work") && works.size() == 16) {
            return -20;
        }
        try {
            return takeText(kind);
        } catch (Fault f) {
            faultPlace = f.place;
            return f.kind - 10;
        }
    }

    private long takeText(String kind) {
        switch (kind) {
            case "choir":
                told = readChoir();
                law = f -> f.get("length");
                book = new TreeMap<>();
                images = new ArrayList<>();
                works = new ArrayList<>();
                now = fresh();
                refusedSteps = 0;
                return told.singers.size();
            case "law":
                Value v = readSum(0);
                if (!ended()) {
                    throw new Fault(1, peek().place);
                }
                law = v;
                return 1;
            case "book":
                book = readBook();
                return book.size();
            default:
                List<Step> steps = readSteps(0);
                works.add(now.copy());
                begun = 0;
                done = 0;
                refusedSteps = 0;
                run(now, steps);
                return done;
        }
    }

    private int handed(int v, int w) {
        int out = 0;
        for (int n = 0; n + 1 < told.notes.size(); n++) {
            int a = now.vowels.get(n);
            int b = now.vowels.get(n + 1);
            if (v != w && Math.min(a, b) == Math.min(v, w) && Math.max(a, b) == Math.max(v, w)) {
                out++;
            }
        }
        return out;
    }

    private int benchBest;
    private List<Integer> benchOrder;

    private void seat(List<Integer> order, int sum) {
        if (order.size() == told.singers.size()) {
            if (sum > benchBest) {
                benchBest = sum;
                benchOrder = new ArrayList<>(order);
            }
            return;
        }
        for (int i = 0; i < told.singers.size(); i++) {
            if (!order.contains(i)) {
                int join = order.isEmpty() ? 0
                        : handed(told.singers.get(order.get(order.size() - 1))[0], told.singers.get(i)[0]);
                order.add(i);
                seat(order, sum + join);
                order.remove(order.size() - 1);
            }
        }
    }

    private void seatAll() {
        benchBest = -1;
        seat(new ArrayList<>(), 0);
    }

    private long ways(int vowels, int note) {
        if (note == told.notes.size()) {
            return 1;
        }
        long out = 0;
        for (int v = 0; v < 6; v++) {
            if ((vowels >> v & 1) == 1 && mayWord(note, v)) {
                out += ways(vowels, note + 1);
            }
        }
        return out;
    }

    private long cast() {
        int best = -1;
        int bestCost = Integer.MAX_VALUE;
        for (int set = 0; set < 1 << told.singers.size(); set++) {
            State s = withHoarse(~set);
            int cost = 0;
            for (int i = 0; i < told.singers.size(); i++) {
                s.left.set(i, told.singers.get(i)[2]);
                cost += (set >> i & 1) == 1 ? 1000 + told.singers.get(i)[1] : 0;
            }
            int before = s.dropped;
            hymn(s);
            if (s.dropped == before && cost < bestCost) {
                best = set;
                bestCost = cost;
            }
        }
        return best;
    }

    private long listen(int what) {
        int best = -1;
        int worst = -1;
        for (int n = 0; n < told.notes.size(); n++) {
            if (book.containsKey(n)) {
                continue;
            }
            int stay = 0;
            for (int h = 0; h < 2; h++) {
                TreeMap<Integer, Integer> more = new TreeMap<>(book);
                more.put(n, h);
                stay = Math.max(stay, fitting(more).size());
            }
            if (best < 0 || stay < worst) {
                best = n;
                worst = stay;
            }
        }
        return what == 0 ? best : worst;
    }

    private long range(int singer) {
        State s = now.copy();
        int last = 0;
        for (int k = 1; k <= 20; k++) {
            for (int by : hymn(s)) {
                last = by == singer ? k : last;
            }
        }
        return last;
    }

    private static long quarrel(int v, int w, int what) {
        int[][] mine = {{v, 0}, {v + w, -w}};
        List<Integer> rests = new ArrayList<>();
        List<Integer> sums = new ArrayList<>();
        for (int a = 0; a < 2; a++) {
            for (int b = 0; b < 2; b++) {
                if (mine[1 - a][b] <= mine[a][b] && mine[1 - b][a] <= mine[b][a]) {
                    rests.add(10 * a + b);
                    sums.add(mine[a][b] + mine[b][a]);
                }
            }
        }
        if (what == 0) {
            return rests.size();
        }
        return what == 1 ? rests.isEmpty() ? -1 : rests.get(0) : sums.isEmpty() ? 0 : sums.get(0);
    }

    private static long enough(int n, int k, int q, int part) {
        java.math.BigInteger above = java.math.BigInteger.ZERO;
        for (int set = 0; set < 1 << n; set++) {
            if (Integer.bitCount(set) >= k) {
                above = above.add(java.math.BigInteger.valueOf(16 - q).pow(Integer.bitCount(set))
                        .multiply(java.math.BigInteger.valueOf(q).pow(n - Integer.bitCount(set))));
            }
        }
        java.math.BigInteger below = java.math.BigInteger.valueOf(16).pow(n);
        java.math.BigInteger gcd = above.gcd(below);
        return (part == 0 ? above : below).divide(gcd).longValueExact();
    }

    private long rent(int singer, int singers, int n) {
        if ((singers >> singer & 1) == 0) {
            return 0;
        }
        int mine = 0;
        for (int bound = 0; bound <= 2000; bound++) {
            int given = 0;
            for (int i = 0; i < told.singers.size(); i++) {
                given += (singers >> i & 1) == 1 ? Math.min(bound, told.singers.get(i)[1]) : 0;
            }
            if (given <= n) {
                mine = Math.min(bound, told.singers.get(singer)[1]);
            }
        }
        return mine;
    }

    private State sunday(int seed, int days, int q) {
        State s = now.copy();
        int many = told.singers.size();
        long lot = seed & 0xffffffffL;
        for (int k = 0; k < days; k++) {
            if (many > 0) {
                lot = (lot * 1103515245L + 12345L) % 4294967296L;
                int i = (int) (lot / 65536 % 32768 % many);
                s.hoarse.set(i, !s.hoarse.get(i));
            }
            hymn(s);
            if (many > 0) {
                lot = (lot * 1103515245L + 12345L) % 4294967296L;
                if (lot / 65536 % 32768 % 16 < q) {
                    rest(s);
                    hymn(s);
                }
            }
            day(s);
        }
        return s;
    }

    private long singerAnswer(int i, int what) {
        switch (what) {
            case 0: case 1: case 2: return told.singers.get(i)[what];
            case 3: return now.left.get(i);
            case 4: return now.hoarse.get(i) ? 1 : 0;
            case 5: return now.sang.get(i);
            case 6: return now.owed.get(i);
            default: return now.today.get(i);
        }
    }

    private long toldAnswer(int what) {
        switch (what) {
            case 0: return told.singers.size();
            case 1: return told.notes.size();
            case 2: return told.likes.size();
            case 3: return now.day;
            case 4: return bits(now.hoarse);
            case 5: return now.dropped;
            case 6: return sum(now.sang);
            case 7: return sum(now.owed);
            case 8: return sum(now.left);
            case 9: return book.size();
            case 10: return refusedSteps;
            default:
                int out = 0;
                for (int n = 0; n < told.notes.size(); n++) {
                    out |= now.vowels.get(n) != told.notes.get(n)[0] ? 1 << n : 0;
                }
                return out;
        }
    }

    private long ahead(int n, int what) {
        State s = now.copy();
        for (int k = 0; k < n; k++) {
            hymn(s);
        }
        int none = 0;
        for (int i = 0; i < told.singers.size(); i++) {
            none |= s.left.get(i) == 0 ? 1 << i : 0;
        }
        return what == 0 ? s.dropped - now.dropped : what == 1 ? sum(s.left) : none;
    }

    private long would(int[] a) {
        int[][] bounds = {{1, 9}, {0, 60}, {0, 30}, {0, 9999}, {0, 19}, {0, 5}, {0, 400}, {0, 6}};
        String[] names = {"length", "pay", "left", "sung", "note", "vowel", "day", "singer"};
        TreeMap<String, Integer> f = new TreeMap<>();
        boolean ok = true;
        for (int i = 0; i < 8; i++) {
            ok &= in(a[i], bounds[i][0], bounds[i][1]);
            f.put(names[i], a[i]);
        }
        must(ok);
        return Math.max(0, Math.min(30, law.of(f)));
    }

    private long span(int[] a) {
        must(in(a[1], 1, 10) && in(a[2], 1, 48) && in(a[3], 0, 16) && in(a[4], 0, 2) && isSinger(a[5]));
        List<Integer> dropped = new ArrayList<>();
        int hoarse = 0;
        for (int k = 0; k < a[1]; k++) {
            State s = sunday(a[0] + k, a[2], a[3]);
            dropped.add(s.dropped - now.dropped);
            hoarse += s.hoarse.get(a[5]) ? 1 : 0;
        }
        return a[4] == 0 ? java.util.Collections.min(dropped)
                : a[4] == 1 ? java.util.Collections.max(dropped) : hoarse;
    }

    private long best(List<Integer> row, int sign, int what) {
        int best = -1;
        for (int i = 0; i < row.size(); i++) {
            if (best < 0 || sign * row.get(i) > sign * row.get(best)) {
                best = i;
            }
        }
        return best < 0 ? -1 : what == 0 ? best : row.get(best);
    }

    private static List<Integer> column(List<int[]> rows, int k) {
        List<Integer> out = new ArrayList<>();
        for (int[] row : rows) {
            out.add(row[k]);
        }
        return out;
    }

    private static int places(List<Integer> row, int x) {
        int out = 0;
        for (int i = 0; i < row.size(); i++) {
            out |= row.get(i) == x ? 1 << i : 0;
        }
        return out;
    }

    long call(String name, int... a) {
        switch (name) {
            case "feed":
                if (tape.size() + 20 > 600) {
                    return -1;
                }
                for (int x : a) {
                    for (int k = 0; k < 4; k++) {
                        tape.add(x >> 24 - 8 * k & 255);
                    }
                }
                return tape.size();
            case "choir": return text(name, a[0], 600);
            case "law": return text(name, a[0], 150);
            case "work": return text(name, a[0], 150);
            case "book": return text(name, a[0], 60);
            case "fault": return faultPlace;
            case "undo":
                if (works.isEmpty()) {
                    return -1;
                }
                now = works.remove(works.size() - 1);
                refusedSteps = 0;
                return works.size();
            case "image":
                if (images.size() == 3) {
                    return -1;
                }
                Image kept = new Image();
                kept.state = now.copy();
                kept.works = new ArrayList<>();
                for (State s : works) {
                    kept.works.add(s.copy());
                }
                images.add(kept);
                return images.size();
            case "restore":
                if (images.isEmpty()) {
                    return -1;
                }
                Image last = images.remove(images.size() - 1);
                now = last.state;
                works = last.works;
                refusedSteps = 0;
                return images.size();
            case "status": return a[0] == 0 ? missing : a[0] == 1 ? refused : -1;
            case "count": return a[0] == 0 ? images.size() : a[0] == 1 ? tape.size() : a[0] == 2 ? works.size() : -1;
            default: return ask(name, a);
        }
    }

    private long ask(String name, int[] a) {
        switch (name) {
            case "told":
                must(in(a[0], 0, 11));
                return toldAnswer(a[0]);
            case "singer":
                mustBe(isSinger(a[0]));
                must(in(a[1], 0, 7));
                return singerAnswer(a[0], a[1]);
            case "note":
                mustBe(isNote(a[0]));
                must(in(a[1], 0, 3));
                return a[1] == 0 ? now.vowels.get(a[0]) : a[1] == 3 ? sungBy(now, a[0])
                        : told.notes.get(a[0])[a[1] - 1];
            case "like":
                mustBe(in(a[0], 0, told.likes.size() - 1));
                must(in(a[1], 0, 1));
                return told.likes.get(a[0])[a[1]];
            case "takes":
                mustBe(isNote(a[0]) && isSinger(a[1]));
                return takes(now, a[0], a[1]);
            case "would": return would(a);
            case "ahead":
                must(in(a[0], 0, 20) && in(a[1], 0, 2));
                return ahead(a[0], a[1]);
            case "cast": return cast();
            case "handed":
                must(in(a[0], 0, 5) && in(a[1], 0, 5));
                return handed(a[0], a[1]);
            case "bench":
                seatAll();
                return benchBest;
            case "benched":
                must(a[0] >= 0);
                seatAll();
                return a[0] < benchOrder.size() ? benchOrder.get(a[0]) : -1;
            case "wording":
                int best = -1;
                for (int set = 0; set < 64; set++) {
                    if (ways(set, 0) > 0 && (best < 0 || Integer.bitCount(set) < Integer.bitCount(best))) {
                        best = set;
                    }
                }
                return best;
            case "wordings":
                must(in(a[0], 0, 63));
                return ways(a[0], 0);
            case "who":
                must(in(a[0], 0, 1));
                List<Integer> sets = fitting(book);
                sets.sort((x, y) -> Integer.bitCount(x) != Integer.bitCount(y)
                        ? Integer.bitCount(x) - Integer.bitCount(y) : x - y);
                return a[0] == 0 ? sets.size() : sets.isEmpty() ? -1 : sets.get(0);
            case "listen":
                must(in(a[0], 0, 1));
                return listen(a[0]);
            default: return askMore(name, a);
        }
    }

    private long askMore(String name, int[] a) {
        switch (name) {
            case "duty":
                mustBe(isSinger(a[0]));
                int duty = 0;
                int[] by = hymn(now.copy());
                for (int n = 0; n < by.length; n++) {
                    duty |= by[n] == a[0] ? 1 << n : 0;
                }
                return duty;
            case "range":
                mustBe(isSinger(a[0]));
                return range(a[0]);
            case "quarrel":
                must(in(a[0], 0, 99) && in(a[1], 0, 99) && in(a[2], 0, 2));
                return quarrel(a[0], a[1], a[2]);
            case "enough":
                must(in(a[0], 0, 12) && in(a[1], 0, 13) && in(a[2], 0, 16) && in(a[3], 0, 1));
                return enough(a[0], a[1], a[2], a[3]);
            case "rent":
                mustBe(isSinger(a[0]));
                must(areSingers(a[1]) && in(a[2], 0, 999));
                return rent(a[0], a[1], a[2]);
            case "dearest":
                must(in(a[0], 0, 1));
                return best(column(told.singers, 1), 1, a[0]);
            case "voices":
                must(in(a[0], 0, 5));
                return places(column(told.singers, 0), a[0]);
            case "sounds":
                must(in(a[0], 0, 5));
                return places(now.vowels, a[0]);
            case "beats":
                must(in(a[0], 0, 5));
                int beats = 0;
                for (int n = 0; n < told.notes.size(); n++) {
                    beats += now.vowels.get(n) == a[0] ? told.notes.get(n)[1] : 0;
                }
                return beats;
            case "words":
                mustBe(isNote(a[0]));
                int words = 0;
                for (int v = 0; v < 6; v++) {
                    words |= mayWord(a[0], v) ? 1 << v : 0;
                }
                return words;
            case "mute":
                int mute = 0;
                for (int n = 0; n < told.notes.size(); n++) {
                    mute |= sungBy(now, n) < 0 ? 1 << n : 0;
                }
                return mute;
            case "idle":
                int idle = (1 << told.singers.size()) - 1;
                for (int i : hymn(now.copy())) {
                    idle &= i < 0 ? -1 : ~(1 << i);
                }
                return idle;
            case "alone":
                must(in(a[0], 0, 5));
                int voices = places(column(told.singers, 0), a[0]);
                return Integer.bitCount(voices) == 1 ? column(told.singers, 0).indexOf(a[0]) : -1;
            case "longest":
                must(in(a[0], 0, 1));
                return best(column(told.notes, 1), 1, a[0]);
            case "chorus":
                must(areSingers(a[0]));
                return Integer.bitCount(heard(~a[0]));
            case "spare":
                must(in(a[0], 0, 1));
                return best(now.left, -1, a[0]);
            case "sunday":
                must(in(a[1], 1, 48) && in(a[2], 0, 16) && in(a[3], 0, 3));
                State s = sunday(a[0], a[1], a[2]);
                return a[3] == 0 ? s.dropped - now.dropped : a[3] == 1 ? bits(s.hoarse)
                        : a[3] == 2 ? sum(s.owed) : sum(s.sang) - sum(now.sang);
            case "span": return span(a);
            default: throw new IllegalStateException("no call named " + name);
        }
    }
}
