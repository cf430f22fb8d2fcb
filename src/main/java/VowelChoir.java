import java.util.NoSuchElementException;

/** A choir whose singers have one vowel each: who sings what, what is dropped, who is owed what. */
public final class VowelChoir {
    public static final int NONE = -1;

    private static final int TAPE_BYTES = 600;
    private static final int FEED_BYTES = 20;
    private static final int LAW_BYTES = 150;
    private static final int WORK_BYTES = 150;
    private static final int BOOK_BYTES = 60;
    private static final int MOST_CLAUSES = 60;
    private static final int MOST_SINGERS = 7;
    private static final int MOST_NOTES = 20;
    private static final int MOST_LIKES = 12;
    private static final int MOST_OPEN = 6;
    private static final int MOST_BEGUN = 200;
    private static final int MOST_AGAIN = 60;
    private static final int MOST_WORKS = 16;
    private static final int MOST_IMAGES = 3;
    private static final int MOST_AHEAD = 20;
    private static final int VOWELS = 6;
    private static final int MOST_LENGTH = 9;
    private static final int MOST_PAY = 60;
    private static final int MOST_BREATH = 30;
    private static final int MOST_OWED = 9999;
    private static final int LAST_DAY = 400;
    private static final int CHANCES = 16;
    private static final int FULL_OF_WORKS = -20;

    private static final int CANT_STAND = 1;
    private static final int NONE_SUCH = 2;
    private static final int TOO_MANY = 3;

    private final Tape tape = new Tape();
    private final Stage stage = new Stage();
    private final Plan plan = new Plan();
    private final Life life = new Life();
    private final Life[] images = new Life[MOST_IMAGES];
    private final Scene trial = new Scene();
    private final Bench seats = new Bench();
    private final int[] tally = new int[MOST_NOTES];
    private Roll nextRoll = new Roll();
    private Law nextRule = new Law();
    private Book lines = new Book();
    private Book nextLines = new Book();
    private int imagesKept;
    private int refusedSteps;
    private int lot;
    private int notFound;
    private int notTaken;

    public VowelChoir() {
        for (int i = 0; i < MOST_IMAGES; i++) {
            images[i] = new Life();
        }
    }

    public int feed(int a, int b, int c, int d, int e) {
        if (tape.size + FEED_BYTES > TAPE_BYTES) {
            return NONE;
        }
        tape.add(a);
        tape.add(b);
        tape.add(c);
        tape.add(d);
        tape.add(e);
        return tape.size;
    }

    public int choir(int n) throws IllegalArgumentException {
        openText(n, TAPE_BYTES);
        nextRoll.read(tape);
        if (!tape.fine()) {
            return tape.kind - 10;
        }
        Roll old = stage.roll;
        stage.roll = nextRoll;
        nextRoll = old;
        beginAnew();
        return stage.roll.singers;
    }

    public int law(int n) throws IllegalArgumentException {
        openText(n, LAW_BYTES);
        nextRule.read(tape);
        if (!tape.fine()) {
            return tape.kind - 10;
        }
        Law old = stage.rule;
        stage.rule = nextRule;
        nextRule = old;
        return 1;
    }

    public int work(int n) throws IllegalArgumentException {
        openText(n, WORK_BYTES);
        if (life.works >= MOST_WORKS) {
            return FULL_OF_WORKS;
        }
        plan.read(tape, stage.roll);
        if (!tape.fine()) {
            return tape.kind - 10;
        }
        life.keep();
        plan.perform(stage, life.now, 0, plan.steps);
        refusedSteps = plan.refused;
        return plan.done;
    }

    public int book(int n) throws IllegalArgumentException {
        openText(n, BOOK_BYTES);
        nextLines.read(tape, stage.roll.notes);
        if (!tape.fine()) {
            return tape.kind - 10;
        }
        Book old = lines;
        lines = nextLines;
        nextLines = old;
        return Integer.bitCount(lines.asked);
    }

    public int fault() {
        return tape.place;
    }

    public int undo() {
        if (life.works <= 0) {
            return -1;
        }
        life.drop();
        refusedSteps = 0;
        return life.works;
    }

    public int told(int what) throws IllegalArgumentException {
        demand(within(what, 0, 11));
        Scene now = life.now;
        switch (what) {
            case 0: return stage.roll.singers;
            case 1: return stage.roll.notes;
            case 2: return stage.roll.likes;
            case 3: return now.day;
            case 4: return now.hoarse;
            case 5: return now.dropped;
            case 6: return total(now.sang);
            case 7: return total(now.owed);
            case 8: return total(now.left);
            case 9: return Integer.bitCount(lines.asked);
            case 10: return refusedSteps;
            default: return wordedAnew();
        }
    }

    public int singer(int singer, int what) throws NoSuchElementException, IllegalArgumentException {
        find(isSinger(singer));
        demand(within(what, 0, 7));
        Roll roll = stage.roll;
        Scene now = life.now;
        switch (what) {
            case 0: return roll.vowel[singer];
            case 1: return roll.pay[singer];
            case 2: return roll.breath[singer];
            case 3: return now.left[singer];
            case 4: return now.hoarse >> singer & 1;
            case 5: return now.sang[singer];
            case 6: return now.owed[singer];
            default: return now.today[singer];
        }
    }

    public int note(int note, int what) throws NoSuchElementException, IllegalArgumentException {
        find(isNote(note));
        demand(within(what, 0, 3));
        switch (what) {
            case 0: return life.now.sound[note];
            case 1: return stage.roll.sound[note];
            case 2: return stage.roll.length[note];
            default: return sungByNow(note);
        }
    }

    public int like(int like, int what) throws NoSuchElementException, IllegalArgumentException {
        find(like >= 0 && like < stage.roll.likes);
        demand(within(what, 0, 1));
        return what == 0 ? stage.roll.likedNote[like] : stage.roll.likedVowel[like];
    }

    public int takes(int note, int singer) throws NoSuchElementException {
        find(isNote(note) && isSinger(singer));
        return stage.breathFor(life.now, note, singer);
    }

    public int would(int length, int pay, int left, int sung, int note, int vowel, int day, int singer)
            throws IllegalArgumentException {
        demand(within(length, 1, MOST_LENGTH) && within(pay, 0, MOST_PAY));
        demand(within(left, 0, MOST_BREATH) && within(sung, 0, 9999));
        demand(within(note, 0, MOST_NOTES - 1) && isVowel(vowel));
        demand(within(day, 0, LAST_DAY) && within(singer, 0, MOST_SINGERS - 1));
        int[] facts = stage.rule.facts;
        facts[Law.LENGTH] = length;
        facts[Law.PAY] = pay;
        facts[Law.LEFT] = left;
        facts[Law.SUNG] = sung;
        facts[Law.NOTE] = note;
        facts[Law.VOWEL] = vowel;
        facts[Law.DAY] = day;
        facts[Law.SINGER] = singer;
        return stage.rule.weigh();
    }

    public int ahead(int n, int what) throws IllegalArgumentException {
        demand(within(n, 0, MOST_AHEAD) && within(what, 0, 2));
        trial.become(life.now);
        for (int k = 0; k < n; k++) {
            stage.singHymn(trial);
        }
        switch (what) {
            case 0: return trial.dropped - life.now.dropped;
            case 1: return total(trial.left);
            default: return outOfBreath(trial);
        }
    }

    public int cast() {
        int best = NONE;
        int sets = 1 << stage.roll.singers;
        for (int set = 0; set < sets; set++) {
            if (isCheaper(set, best) && canCast(set)) {
                best = set;
            }
        }
        return best;
    }

    public int handed(int vowel, int other) throws IllegalArgumentException {
        demand(isVowel(vowel) && isVowel(other));
        return handedOn(vowel, other);
    }

    public int bench() {
        fillBench();
        return seats.most();
    }

    public int benched(int k) throws IllegalArgumentException {
        demand(k >= 0);
        if (k >= stage.roll.singers) {
            return NONE;
        }
        fillBench();
        return seats.at(k);
    }

    public int wording() {
        int best = NONE;
        for (int set = 0; set < 1 << VOWELS; set++) {
            boolean fewer = best == NONE || Integer.bitCount(set) < Integer.bitCount(best);
            if (fewer && waysToWord(set) > 0) {
                best = set;
            }
        }
        return best;
    }

    public long wordings(int vowels) throws IllegalArgumentException {
        demand(within(vowels, 0, (1 << VOWELS) - 1));
        return waysToWord(vowels);
    }

    public int who(int what) throws IllegalArgumentException {
        demand(within(what, 0, 1));
        int many = 0;
        int first = NONE;
        int sets = 1 << stage.roll.singers;
        for (int set = 0; set < sets; set++) {
            if (!lines.fits(heardWithout(set))) {
                continue;
            }
            many++;
            if (first == NONE || Integer.bitCount(set) < Integer.bitCount(first)) {
                first = set;
            }
        }
        return what == 0 ? many : first;
    }

    public int listen(int what) throws IllegalArgumentException {
        demand(within(what, 0, 1));
        int many = tallyHeard();
        int best = NONE;
        int worst = NONE;
        for (int note = 0; note < stage.roll.notes; note++) {
            int stay = Math.max(tally[note], many - tally[note]);
            boolean open = (lines.asked >> note & 1) == 0;
            if (open && (best == NONE || stay < worst)) {
                best = note;
                worst = stay;
            }
        }
        return what == 0 ? best : worst;
    }

    public int duty(int singer) throws NoSuchElementException {
        find(isSinger(singer));
        trial.become(life.now);
        return notesSungBy(singer);
    }

    public int range(int singer) throws NoSuchElementException {
        find(isSinger(singer));
        trial.become(life.now);
        int last = 0;
        for (int hymn = 1; hymn <= MOST_AHEAD; hymn++) {
            int before = trial.sang[singer];
            stage.singHymn(trial);
            if (trial.sang[singer] > before) {
                last = hymn;
            }
        }
        return last;
    }

    public int quarrel(int v, int w, int what) throws IllegalArgumentException {
        demand(within(v, 0, 99) && within(w, 0, 99) && within(what, 0, 2));
        int rests = 0;
        int first = NONE;
        int together = 0;
        for (int pair = 0; pair < 4; pair++) {
            int one = pair >> 1;
            int other = pair & 1;
            int mine = gain(one, other, v, w);
            int yours = gain(other, one, v, w);
            if (gain(1 - one, other, v, w) > mine || gain(1 - other, one, v, w) > yours) {
                continue;
            }
            if (rests == 0) {
                first = 10 * one + other;
                together = mine + yours;
            }
            rests++;
        }
        return what == 0 ? rests : what == 1 ? first : together;
    }

    public long enough(int n, int k, int q, int part) throws IllegalArgumentException {
        demand(within(n, 0, 12) && within(k, 0, 13) && within(q, 0, CHANCES) && within(part, 0, 1));
        long above = 0;
        for (int able = k; able <= n; able++) {
            above += choices(n, able) * power(CHANCES - q, able) * power(q, n - able);
        }
        long below = power(CHANCES, n);
        // What stands below is a power of two, so halving alone leads to least terms.
        while (below > 1 && (above & 1) == 0) {
            above >>= 1;
            below >>= 1;
        }
        return part == 0 ? above : below;
    }

    public int rent(int singer, int singers, int n) throws NoSuchElementException, IllegalArgumentException {
        find(isSinger(singer));
        demand(areSingers(singers) && within(n, 0, 999));
        if ((singers >> singer & 1) == 0) {
            return 0;
        }
        int bound = MOST_PAY;
        while (bound > 0 && given(singers, bound) > n) {
            bound--;
        }
        return Math.min(stage.roll.pay[singer], bound);
    }

    public int dearest(int what) throws IllegalArgumentException {
        demand(within(what, 0, 1));
        int best = firstMost(stage.roll.pay, stage.roll.singers);
        return what == 0 || best == NONE ? best : stage.roll.pay[best];
    }

    public int voices(int vowel) throws IllegalArgumentException {
        demand(isVowel(vowel));
        return places(stage.roll.vowel, stage.roll.singers, vowel);
    }

    public int sounds(int vowel) throws IllegalArgumentException {
        demand(isVowel(vowel));
        return places(life.now.sound, stage.roll.notes, vowel);
    }

    public int beats(int vowel) throws IllegalArgumentException {
        demand(isVowel(vowel));
        int sum = 0;
        for (int note = 0; note < stage.roll.notes; note++) {
            if (life.now.sound[note] == vowel) {
                sum += stage.roll.length[note];
            }
        }
        return sum;
    }

    public int words(int note) throws NoSuchElementException {
        find(isNote(note));
        return stage.roll.allowed[note];
    }

    public int mute() {
        int bits = 0;
        for (int note = 0; note < stage.roll.notes; note++) {
            if (sungByNow(note) == NONE) {
                bits |= 1 << note;
            }
        }
        return bits;
    }

    public int idle() {
        trial.become(life.now);
        stage.singHymn(trial);
        int bits = 0;
        for (int i = 0; i < stage.roll.singers; i++) {
            if (trial.sang[i] == life.now.sang[i]) {
                bits |= 1 << i;
            }
        }
        return bits;
    }

    public int alone(int vowel) throws IllegalArgumentException {
        demand(isVowel(vowel));
        int only = NONE;
        for (int i = 0; i < stage.roll.singers; i++) {
            if (stage.roll.vowel[i] != vowel) {
                continue;
            }
            if (only != NONE) {
                return NONE;
            }
            only = i;
        }
        return only;
    }

    public int longest(int what) throws IllegalArgumentException {
        demand(within(what, 0, 1));
        int best = firstMost(stage.roll.length, stage.roll.notes);
        return what == 0 || best == NONE ? best : stage.roll.length[best];
    }

    public int chorus(int singers) throws IllegalArgumentException {
        demand(areSingers(singers));
        return Integer.bitCount(heardWithout(allSingers() & ~singers));
    }

    public int spare(int what) throws IllegalArgumentException {
        demand(within(what, 0, 1));
        int[] left = life.now.left;
        int best = NONE;
        for (int i = 0; i < stage.roll.singers; i++) {
            if (best == NONE || left[i] < left[best]) {
                best = i;
            }
        }
        return what == 0 || best == NONE ? best : left[best];
    }

    public int sunday(int seed, int days, int q, int what) throws IllegalArgumentException {
        demand(within(days, 1, 48) && within(q, 0, CHANCES) && within(what, 0, 3));
        liveSunday(seed, days, q);
        switch (what) {
            case 0: return trial.dropped - life.now.dropped;
            case 1: return trial.hoarse;
            case 2: return total(trial.owed);
            default: return total(trial.sang) - total(life.now.sang);
        }
    }

    public int span(int seed, int many, int days, int q, int what, int singer) throws IllegalArgumentException {
        demand(within(many, 1, 10) && within(days, 1, 48) && within(q, 0, CHANCES));
        demand(within(what, 0, 2) && isSinger(singer));
        int fewest = 0;
        int most = 0;
        int hoarse = 0;
        for (int k = 0; k < many; k++) {
            liveSunday(seed + k, days, q);
            int dropped = trial.dropped - life.now.dropped;
            fewest = k == 0 ? dropped : Math.min(fewest, dropped);
            most = Math.max(most, dropped);
            hoarse += trial.hoarse >> singer & 1;
        }
        return what == 0 ? fewest : what == 1 ? most : hoarse;
    }

    public int image() {
        if (imagesKept >= MOST_IMAGES) {
            return -1;
        }
        images[imagesKept].become(life);
        imagesKept++;
        return imagesKept;
    }

    public int restore() {
        if (imagesKept <= 0) {
            return -1;
        }
        imagesKept--;
        life.become(images[imagesKept]);
        refusedSteps = 0;
        return imagesKept;
    }

    public int status(int what) {
        return what == 0 ? notFound : what == 1 ? notTaken : NONE;
    }

    public int count(int what) {
        switch (what) {
            case 0: return imagesKept;
            case 1: return tape.size;
            case 2: return life.works;
            default: return NONE;
        }
    }

    private void demand(boolean taken) {
        if (!taken) {
            notTaken++;
            throw new IllegalArgumentException("not what this call takes");
        }
    }

    private void find(boolean found) {
        if (!found) {
            notFound++;
            throw new NoSuchElementException("no such singer, note or like");
        }
    }

    private void openText(int n, int most) {
        demand(within(n, 0, most) && n <= tape.size);
        tape.open(n);
    }

    private void beginAnew() {
        stage.rule.plain();
        lines.clear();
        life.begin(stage.roll);
        imagesKept = 0;
        refusedSteps = 0;
    }

    private static boolean within(int value, int least, int most) {
        return value >= least && value <= most;
    }

    private static boolean isVowel(int vowel) {
        return within(vowel, 0, VOWELS - 1);
    }

    private boolean isSinger(int singer) {
        return singer >= 0 && singer < stage.roll.singers;
    }

    private boolean isNote(int note) {
        return note >= 0 && note < stage.roll.notes;
    }

    private int allSingers() {
        return (1 << stage.roll.singers) - 1;
    }

    private boolean areSingers(int bits) {
        return (bits & ~allSingers()) == 0;
    }

    private static int total(int[] row) {
        int sum = 0;
        for (int i = 0; i < row.length; i++) {
            sum += row[i];
        }
        return sum;
    }

    private static int places(int[] row, int size, int value) {
        int bits = 0;
        for (int i = 0; i < size && i < row.length; i++) {
            if (row[i] == value) {
                bits |= 1 << i;
            }
        }
        return bits;
    }

    private static int firstMost(int[] row, int size) {
        int best = NONE;
        for (int i = 0; i < size && i < row.length; i++) {
            if (best == NONE || row[i] > row[best]) {
                best = i;
            }
        }
        return best;
    }

    private int wordedAnew() {
        int bits = 0;
        for (int note = 0; note < stage.roll.notes; note++) {
            if (life.now.sound[note] != stage.roll.sound[note]) {
                bits |= 1 << note;
            }
        }
        return bits;
    }

    private int sungByNow(int note) {
        trial.become(life.now);
        return stage.singNote(trial, note);
    }

    private int outOfBreath(Scene scene) {
        return places(scene.left, stage.roll.singers, 0);
    }

    private int notesSungBy(int singer) {
        int bits = 0;
        for (int note = 0; note < stage.roll.notes; note++) {
            if (stage.singNote(trial, note) == singer) {
                bits |= 1 << note;
            }
        }
        return bits;
    }

    private int payOf(int singers) {
        int sum = 0;
        for (int i = 0; i < stage.roll.singers; i++) {
            sum += (singers >> i & 1) * stage.roll.pay[i];
        }
        return sum;
    }

    private boolean isCheaper(int set, int best) {
        if (best == NONE) {
            return true;
        }
        int fewer = Integer.bitCount(best) - Integer.bitCount(set);
        return fewer > 0 || fewer == 0 && payOf(set) < payOf(best);
    }

    private boolean canCast(int set) {
        trial.become(life.now);
        trial.hoarse = allSingers() & ~set;
        stage.refresh(trial);
        for (int note = 0; note < stage.roll.notes; note++) {
            if (stage.singNote(trial, note) == NONE) {
                return false;
            }
        }
        return true;
    }

    private int handedOn(int vowel, int other) {
        if (vowel == other) {
            return 0;
        }
        int[] sound = life.now.sound;
        int times = 0;
        for (int note = 1; note < stage.roll.notes; note++) {
            boolean there = sound[note - 1] == vowel && sound[note] == other;
            boolean back = sound[note - 1] == other && sound[note] == vowel;
            times += there || back ? 1 : 0;
        }
        return times;
    }

    private void fillBench() {
        Roll roll = stage.roll;
        seats.singers = roll.singers;
        for (int i = 0; i < roll.singers; i++) {
            for (int k = 0; k < roll.singers; k++) {
                seats.between[i * MOST_SINGERS + k] = handedOn(roll.vowel[i], roll.vowel[k]);
            }
        }
        seats.fill();
    }

    private long waysToWord(int vowels) {
        long ways = 1;
        for (int note = 0; note < stage.roll.notes; note++) {
            ways *= Integer.bitCount(stage.roll.allowed[note] & vowels);
        }
        return ways;
    }

    private int heardWithout(int hoarse) {
        trial.become(life.now);
        trial.hoarse = hoarse;
        return stage.singHymn(trial);
    }

    private int tallyHeard() {
        for (int note = 0; note < MOST_NOTES; note++) {
            tally[note] = 0;
        }
        int many = 0;
        int sets = 1 << stage.roll.singers;
        for (int set = 0; set < sets; set++) {
            int heard = heardWithout(set);
            if (!lines.fits(heard)) {
                continue;
            }
            many++;
            for (int note = 0; note < MOST_NOTES; note++) {
                tally[note] += heard >> note & 1;
            }
        }
        return many;
    }

    private static int gain(int mine, int yours, int v, int w) {
        if (mine == 0) {
            return yours == 0 ? v : 0;
        }
        return yours == 0 ? v + w : -w;
    }

    private static long power(int base, int exponent) {
        long out = 1;
        for (int k = 0; k < exponent; k++) {
            out *= base;
        }
        return out;
    }

    private static long choices(int n, int k) {
        long out = 1;
        for (int i = 1; i <= k; i++) {
            out = out * (n - k + i) / i;
        }
        return out;
    }

    private int given(int singers, int bound) {
        int sum = 0;
        for (int i = 0; i < stage.roll.singers; i++) {
            sum += (singers >> i & 1) * Math.min(stage.roll.pay[i], bound);
        }
        return sum;
    }

    private int draw(int by) {
        lot = lot * 1103515245 + 12345;
        return by > 0 ? (lot >>> 16 & 32767) % by : 0;
    }

    private void liveSunday(int seed, int days, int q) {
        trial.become(life.now);
        lot = seed;
        int singers = stage.roll.singers;
        for (int k = 0; k < days; k++) {
            if (singers > 0) {
                trial.hoarse ^= 1 << draw(singers);
            }
            stage.singHymn(trial);
            if (singers > 0 && draw(CHANCES) < q) {
                stage.rest(trial);
                stage.singHymn(trial);
            }
            stage.nextDay(trial);
        }
    }

    /** The bytes that were fed, and the reading of a text from the first of them. */
    private static final class Tape {
        private static final int END = -1;
        // Far above all that a number may be, far below where times ten would wrap.
        private static final int HUGE = 100000;

        int size;
        int kind;
        int place = NONE;
        int at;
        int start;
        private int end;
        private final byte[] bytes = new byte[TAPE_BYTES];

        void add(int number) {
            for (int shift = 24; shift >= 0 && size < TAPE_BYTES; shift -= 8) {
                bytes[size] = (byte) (number >>> shift);
                size++;
            }
        }

        void open(int n) {
            end = n;
            size = 0;
            at = 0;
            start = 0;
            kind = 0;
            place = NONE;
        }

        boolean fine() {
            return kind == 0;
        }

        /** The first FAULT counts; behind it nothing more is read, so that readers come to their end. */
        void fail(int fault, int where) {
            if (kind == 0) {
                kind = fault;
                place = where;
                at = end;
            }
        }

        int peek() {
            while (at < end && bytes[at] == ' ') {
                at++;
            }
            return at < end ? bytes[at] & 255 : END;
        }

        boolean more() {
            return kind == 0 && peek() != END;
        }

        void sign(int wanted) {
            if (peek() == wanted) {
                at++;
            } else {
                fail(CANT_STAND, at);
            }
        }

        void word() {
            peek();
            start = at;
            while (at < end && bytes[at] >= 'a' && bytes[at] <= 'z') {
                at++;
            }
        }

        boolean says(String word) {
            if (at - start != word.length()) {
                return false;
            }
            for (int i = 0; i < word.length(); i++) {
                if (bytes[start + i] != word.charAt(i)) {
                    return false;
                }
            }
            return true;
        }

        int figure(int least, int most) {
            peek();
            start = at;
            int value = 0;
            while (at < end && bytes[at] >= '0' && bytes[at] <= '9') {
                value = value * 10 + bytes[at] - '0';
                value = value > HUGE ? HUGE : value;
                at++;
            }
            if (at == start) {
                fail(CANT_STAND, start);
            } else if (value < least || value > most) {
                fail(NONE_SUCH, start);
            }
            return kind == 0 ? value : least;
        }
    }

    /** The CHOIR as it was told. */
    private static final class Roll {
        int singers;
        int notes;
        int likes;
        int back = 5;
        final int[] vowel = new int[MOST_SINGERS];
        final int[] pay = new int[MOST_SINGERS];
        final int[] breath = new int[MOST_SINGERS];
        final int[] sound = new int[MOST_NOTES];
        final int[] length = new int[MOST_NOTES];
        final int[] allowed = new int[MOST_NOTES];
        final int[] likedNote = new int[MOST_LIKES];
        final int[] likedVowel = new int[MOST_LIKES];

        void read(Tape tape) {
            singers = 0;
            notes = 0;
            likes = 0;
            back = 5;
            for (int k = 0; k <= MOST_CLAUSES && tape.more(); k++) {
                readClause(tape, k < MOST_CLAUSES);
            }
        }

        private void readClause(Tape tape, boolean room) {
            tape.word();
            if (tape.says("singer")) {
                readSinger(tape, room);
            } else if (tape.says("note")) {
                readNote(tape, room);
            } else if (tape.says("like")) {
                readLike(tape, room);
            } else if (tape.says("rest")) {
                readRest(tape, room);
            } else {
                tape.fail(CANT_STAND, tape.start);
            }
            tape.sign(';');
        }

        private void readSinger(Tape tape, boolean room) {
            if (!room || singers >= MOST_SINGERS) {
                tape.fail(TOO_MANY, tape.start);
                return;
            }
            vowel[singers] = tape.figure(0, VOWELS - 1);
            pay[singers] = tape.figure(0, MOST_PAY);
            breath[singers] = tape.figure(1, MOST_BREATH);
            singers++;
        }

        private void readNote(Tape tape, boolean room) {
            if (!room || notes >= MOST_NOTES) {
                tape.fail(TOO_MANY, tape.start);
                return;
            }
            sound[notes] = tape.figure(0, VOWELS - 1);
            length[notes] = tape.figure(1, MOST_LENGTH);
            allowed[notes] = 1 << sound[notes];
            notes++;
        }

        private void readLike(Tape tape, boolean room) {
            if (!room || likes >= MOST_LIKES) {
                tape.fail(TOO_MANY, tape.start);
                return;
            }
            likedNote[likes] = tape.figure(0, notes - 1);
            likedVowel[likes] = tape.figure(0, VOWELS - 1);
            allowed[likedNote[likes]] |= 1 << likedVowel[likes];
            likes++;
        }

        private void readRest(Tape tape, boolean room) {
            if (!room) {
                tape.fail(TOO_MANY, tape.start);
                return;
            }
            back = tape.figure(0, MOST_BREATH);
        }
    }

    /** The LAW as a row of nodes, each behind those that it joins: one walk along the row works it out. */
    private static final class Law {
        static final int LENGTH = 0;
        static final int PAY = 1;
        static final int LEFT = 2;
        static final int SUNG = 3;
        static final int NOTE = 4;
        static final int VOWEL = 5;
        static final int DAY = 6;
        static final int SINGER = 7;
        private static final int FACTS = 8;
        private static final int NUMBER = 8;
        private static final int LEAST = 9;
        private static final int MOST = 10;

        final int[] facts = new int[FACTS];
        private final int[] kind = new int[LAW_BYTES];
        private final int[] first = new int[LAW_BYTES];
        private final int[] second = new int[LAW_BYTES];
        private final int[] value = new int[LAW_BYTES];
        // A row of one node, of kind 0: length.
        private int nodes = 1;

        void plain() {
            nodes = 0;
            add(LENGTH, 0, 0);
        }

        void read(Tape tape) {
            nodes = 0;
            sum(tape, 0);
            if (tape.more()) {
                tape.fail(CANT_STAND, tape.at);
            }
        }

        private int add(int what, int one, int other) {
            if (nodes >= LAW_BYTES) {
                return 0;
            }
            kind[nodes] = what;
            first[nodes] = one;
            second[nodes] = other;
            nodes++;
            return nodes - 1;
        }

        private int sum(Tape tape, int open) {
            int node = product(tape, open);
            for (int k = 0; k < LAW_BYTES; k++) {
                int sign = tape.peek();
                if (sign != '+' && sign != '-') {
                    break;
                }
                tape.sign(sign);
                node = add(sign, node, product(tape, open));
            }
            return node;
        }

        private int product(Tape tape, int open) {
            int node = unit(tape, open);
            for (int k = 0; k < LAW_BYTES; k++) {
                int sign = tape.peek();
                if (sign != '*' && sign != '/' && sign != '%') {
                    break;
                }
                tape.sign(sign);
                node = add(sign, node, unit(tape, open));
            }
            return node;
        }

        private int unit(Tape tape, int open) {
            int next = tape.peek();
            if (next >= '0' && next <= '9') {
                return add(NUMBER, tape.figure(0, 999), 0);
            }
            if (next == '(') {
                return inner(tape, open);
            }
            tape.word();
            if (tape.says("least")) {
                return pair(tape, open, LEAST);
            }
            if (tape.says("most")) {
                return pair(tape, open, MOST);
            }
            int fact = factNamed(tape);
            if (fact == NONE) {
                tape.fail(CANT_STAND, tape.start);
                return 0;
            }
            return add(fact, 0, 0);
        }

        private int inner(Tape tape, int open) {
            if (open >= MOST_OPEN) {
                tape.fail(TOO_MANY, tape.at);
                return 0;
            }
            tape.sign('(');
            int node = sum(tape, open + 1);
            tape.sign(')');
            return node;
        }

        private int pair(Tape tape, int open, int what) {
            if (open >= MOST_OPEN) {
                tape.fail(TOO_MANY, tape.start);
                return 0;
            }
            tape.sign('[');
            int one = sum(tape, open + 1);
            tape.sign(',');
            int other = sum(tape, open + 1);
            tape.sign(']');
            return add(what, one, other);
        }

        private static int factNamed(Tape tape) {
            if (tape.says("length")) {
                return LENGTH;
            }
            if (tape.says("pay")) {
                return PAY;
            }
            if (tape.says("left")) {
                return LEFT;
            }
            if (tape.says("sung")) {
                return SUNG;
            }
            if (tape.says("note")) {
                return NOTE;
            }
            if (tape.says("vowel")) {
                return VOWEL;
            }
            if (tape.says("day")) {
                return DAY;
            }
            return tape.says("singer") ? SINGER : NONE;
        }

        /** What comes out for the facts, as breath. */
        int weigh() {
            int out = 0;
            for (int i = 0; i < nodes; i++) {
                int what = kind[i];
                if (what < FACTS) {
                    out = facts[what];
                } else if (what == NUMBER) {
                    out = first[i];
                } else {
                    out = joined(what, value[first[i]], value[second[i]]);
                }
                value[i] = out;
            }
            return out < 0 ? 0 : out > MOST_BREATH ? MOST_BREATH : out;
        }

        private static int joined(int what, int one, int other) {
            switch (what) {
                case '+': return one + other;
                case '-': return one - other;
                case '*': return one * other;
                case '/': return other == 0 ? 0 : one / other;
                case '%': return other == 0 ? 0 : one % other;
                case LEAST: return one < other ? one : other;
                default: return one > other ? one : other;
            }
        }
    }

    /** WORK as a row of steps; the body of an again stands right behind it. */
    private static final class Plan {
        private static final int SING = 0;
        private static final int HYMN = 1;
        private static final int REST = 2;
        private static final int HOARSE = 3;
        private static final int CURE = 4;
        private static final int WORD = 5;
        private static final int DAY = 6;
        private static final int AGAIN = 7;

        int steps;
        int done;
        int refused;
        private int begun;
        private final int[] kind = new int[WORK_BYTES];
        private final int[] first = new int[WORK_BYTES];
        private final int[] second = new int[WORK_BYTES];
        private final int[] behind = new int[WORK_BYTES];

        void read(Tape tape, Roll roll) {
            steps = 0;
            done = 0;
            refused = 0;
            begun = 0;
            readSteps(tape, roll, 0);
            if (tape.more()) {
                tape.fail(CANT_STAND, tape.at);
            }
        }

        private void readSteps(Tape tape, Roll roll, int open) {
            for (int k = 0; k < WORK_BYTES && tape.more() && tape.peek() != ']'; k++) {
                readStep(tape, roll, open);
            }
        }

        private void readStep(Tape tape, Roll roll, int open) {
            tape.word();
            int step = stepNamed(tape);
            if (step == NONE || steps >= WORK_BYTES) {
                tape.fail(CANT_STAND, tape.start);
                return;
            }
            if (step == AGAIN && open >= MOST_OPEN) {
                tape.fail(TOO_MANY, tape.start);
                return;
            }
            int mine = steps;
            steps++;
            kind[mine] = step;
            first[mine] = step == HYMN || step == REST || step == DAY ? 0 : tape.figure(0, mostOf(step, roll));
            second[mine] = step == WORD ? tape.figure(0, VOWELS - 1) : 0;
            if (step == AGAIN) {
                tape.sign('[');
                readSteps(tape, roll, open + 1);
                tape.sign(']');
            }
            behind[mine] = steps;
            tape.sign(';');
        }

        private static int stepNamed(Tape tape) {
            if (tape.says("sing")) {
                return SING;
            }
            if (tape.says("hymn")) {
                return HYMN;
            }
            if (tape.says("rest")) {
                return REST;
            }
            if (tape.says("hoarse")) {
                return HOARSE;
            }
            if (tape.says("cure")) {
                return CURE;
            }
            if (tape.says("word")) {
                return WORD;
            }
            if (tape.says("day")) {
                return DAY;
            }
            return tape.says("again") ? AGAIN : NONE;
        }

        private static int mostOf(int step, Roll roll) {
            if (step == AGAIN) {
                return MOST_AGAIN;
            }
            return step == SING || step == WORD ? roll.notes - 1 : roll.singers - 1;
        }

        /** Calls itself for the body of an again: no deeper than agains were let stand open. */
        void perform(Stage stage, Scene scene, int from, int to) {
            int at = from;
            while (at < to && begun < MOST_BEGUN) {
                begun++;
                if (kind[at] == AGAIN) {
                    for (int k = 0; k < first[at] && begun < MOST_BEGUN; k++) {
                        perform(stage, scene, at + 1, behind[at]);
                    }
                    at = behind[at];
                } else {
                    if (doStep(stage, scene, at)) {
                        done++;
                    } else {
                        refused++;
                    }
                    at++;
                }
            }
        }

        private boolean doStep(Stage stage, Scene scene, int at) {
            switch (kind[at]) {
                case SING:
                    return stage.singNote(scene, first[at]) != NONE;
                case HYMN:
                    stage.singHymn(scene);
                    return true;
                case REST:
                    return stage.rest(scene);
                case HOARSE:
                    return scene.turn(first[at], 1);
                case CURE:
                    return scene.turn(first[at], 0);
                case WORD:
                    return stage.reword(scene, first[at], second[at]);
                default:
                    return scene.day < LAST_DAY && stage.nextDay(scene);
            }
        }
    }

    /** What the gallery heard: of the NOTES asked for (bits), those that were heard. */
    private static final class Book {
        int asked;
        private int heard;

        void clear() {
            asked = 0;
            heard = 0;
        }

        void read(Tape tape, int notes) {
            clear();
            for (int k = 0; k < BOOK_BYTES && tape.more(); k++) {
                int note = tape.figure(0, notes - 1);
                if ((asked >> note & 1) == 1) {
                    tape.fail(NONE_SUCH, tape.start);
                }
                asked |= 1 << note;
                heard |= tape.figure(0, 1) << note;
                tape.sign(';');
            }
        }

        boolean fits(int sung) {
            return (sung & asked) == heard;
        }
    }

    /** All that WORK changes. */
    private static final class Scene {
        int day;
        int hoarse;
        int dropped;
        final int[] left = new int[MOST_SINGERS];
        final int[] sang = new int[MOST_SINGERS];
        final int[] owed = new int[MOST_SINGERS];
        final int[] today = new int[MOST_SINGERS];
        final int[] sound = new int[MOST_NOTES];

        void begin(Roll roll) {
            day = 0;
            hoarse = 0;
            dropped = 0;
            for (int i = 0; i < MOST_SINGERS; i++) {
                left[i] = i < roll.singers ? roll.breath[i] : 0;
                sang[i] = 0;
                owed[i] = 0;
                today[i] = 0;
            }
            System.arraycopy(roll.sound, 0, sound, 0, MOST_NOTES);
        }

        void become(Scene other) {
            day = other.day;
            hoarse = other.hoarse;
            dropped = other.dropped;
            System.arraycopy(other.left, 0, left, 0, MOST_SINGERS);
            System.arraycopy(other.sang, 0, sang, 0, MOST_SINGERS);
            System.arraycopy(other.owed, 0, owed, 0, MOST_SINGERS);
            System.arraycopy(other.today, 0, today, 0, MOST_SINGERS);
            System.arraycopy(other.sound, 0, sound, 0, MOST_NOTES);
        }

        boolean turn(int singer, int wanted) {
            if ((hoarse >> singer & 1) == wanted) {
                return false;
            }
            hoarse ^= 1 << singer;
            return true;
        }
    }

    /** A scene, and the scenes ahead of each WORK that can be undone. */
    private static final class Life {
        int works;
        final Scene now = new Scene();
        private final Scene[] before = new Scene[MOST_WORKS];

        Life() {
            for (int i = 0; i < MOST_WORKS; i++) {
                before[i] = new Scene();
            }
        }

        void begin(Roll roll) {
            works = 0;
            now.begin(roll);
        }

        void keep() {
            if (works < MOST_WORKS) {
                before[works].become(now);
                works++;
            }
        }

        void drop() {
            if (works > 0) {
                works--;
                now.become(before[works]);
            }
        }

        void become(Life other) {
            works = other.works;
            now.become(other.now);
            for (int i = 0; i < works; i++) {
                before[i].become(other.before[i]);
            }
        }
    }

    /** What happens to a scene by the told CHOIR and its LAW. */
    private static final class Stage {
        Roll roll = new Roll();
        Law rule = new Law();

        int breathFor(Scene scene, int note, int singer) {
            int[] facts = rule.facts;
            facts[Law.LENGTH] = roll.length[note];
            facts[Law.PAY] = roll.pay[singer];
            facts[Law.LEFT] = scene.left[singer];
            facts[Law.SUNG] = scene.sang[singer];
            facts[Law.NOTE] = note;
            facts[Law.VOWEL] = scene.sound[note];
            facts[Law.DAY] = scene.day;
            facts[Law.SINGER] = singer;
            return rule.weigh();
        }

        /** The SINGER that the NOTE is sung by; NONE, and nothing is changed. */
        int singNote(Scene scene, int note) {
            for (int i = 0; i < roll.singers; i++) {
                if (roll.vowel[i] != scene.sound[note] || (scene.hoarse >> i & 1) == 1) {
                    continue;
                }
                int breath = breathFor(scene, note, i);
                if (breath <= scene.left[i]) {
                    scene.left[i] -= breath;
                    scene.sang[i]++;
                    scene.today[i]++;
                    return i;
                }
            }
            return NONE;
        }

        /** The NOTES (bits) that were sung. */
        int singHymn(Scene scene) {
            int sung = 0;
            for (int note = 0; note < roll.notes; note++) {
                if (singNote(scene, note) == NONE) {
                    scene.dropped++;
                } else {
                    sung |= 1 << note;
                }
            }
            return sung;
        }

        boolean rest(Scene scene) {
            boolean tired = false;
            for (int i = 0; i < roll.singers; i++) {
                tired |= scene.left[i] < roll.breath[i];
                scene.left[i] = Math.min(scene.left[i] + roll.back, roll.breath[i]);
            }
            return tired;
        }

        boolean reword(Scene scene, int note, int vowel) {
            if (scene.sound[note] == vowel || (roll.allowed[note] >> vowel & 1) == 0) {
                return false;
            }
            scene.sound[note] = vowel;
            return true;
        }

        void refresh(Scene scene) {
            for (int i = 0; i < roll.singers; i++) {
                scene.left[i] = roll.breath[i];
            }
        }

        boolean nextDay(Scene scene) {
            refresh(scene);
            for (int i = 0; i < roll.singers; i++) {
                if (scene.today[i] > 0) {
                    scene.owed[i] = Math.min(scene.owed[i] + roll.pay[i], MOST_OWED);
                }
                scene.today[i] = 0;
            }
            scene.day++;
            return true;
        }
    }

    /** The order in which most is handed on, by the most that can follow once some sit and one sits last. */
    private static final class Bench {
        int singers;
        final int[] between = new int[MOST_SINGERS * MOST_SINGERS];
        private final int[] best = new int[(1 << MOST_SINGERS) * MOST_SINGERS];

        void fill() {
            for (int seated = (1 << singers) - 1; seated > 0; seated--) {
                for (int last = 0; last < singers; last++) {
                    best[seated * MOST_SINGERS + last] = mostBehind(seated, last);
                }
            }
        }

        private int mostBehind(int seated, int last) {
            int most = 0;
            for (int next = 0; next < singers; next++) {
                if ((seated >> next & 1) == 0) {
                    most = Math.max(most, worth(seated, last, next));
                }
            }
            return most;
        }

        private int worth(int seated, int last, int next) {
            int join = last == NONE ? 0 : between[last * MOST_SINGERS + next];
            return join + best[(seated | 1 << next) * MOST_SINGERS + next];
        }

        int most() {
            return mostBehind(0, NONE);
        }

        int at(int place) {
            int seated = 0;
            int last = NONE;
            for (int k = 0; k <= place && k < singers; k++) {
                int next = firstBest(seated, last);
                seated |= 1 << next;
                last = next;
            }
            return last;
        }

        private int firstBest(int seated, int last) {
            int most = mostBehind(seated, last);
            for (int next = 0; next < singers; next++) {
                if ((seated >> next & 1) == 0 && worth(seated, last, next) == most) {
                    return next;
                }
            }
            return 0;
        }
    }
}
