import java.util.ArrayList;
import java.util.List;

/** The edges of what is kept: the 3 IMAGES, nothing to restore, WORKS in IMAGES, what no IMAGE keeps; 512 calls. */
public final class KeptEdgesTest {
    private static final Checks c = new Checks("KeptEdgesTest");
    private static final String CHOIR = "choir 'singer 0 5 9;singer 1 7 8;note 0 2;note 1 3;like 1 0;' = 2";

    public static void main(String[] args) {
        threeImages();
        theLatestImage();
        choirsAndImages();
        allThatWorkChanges();
        worksInImages();
        sixteenWorksInAnImage();
        whatNoImageKeeps();
        status();
        count();
        calls();
        c.end();
    }

    // Promise 42: "how many there are; -1: there are 3". Promise 43: "how many are left; -1: there is none"
    private static void threeImages() {
        Script.run(c, "three", "restore = -1", "image = 1", "image = 2", "image = 3", "image = -1", "count 0 = 3", "image = -1",
                "count 0 = 3", "restore = 2", "count 0 = 2", "image = 3", "image = -1", "restore = 2", "restore = 1",
                "restore = 0", "count 0 = 0", "restore = -1", "restore = -1", "count 0 = 0", "image = 1", "restore = 0");
        Script.run(c, "a fourth keeps nothing", CHOIR, "image = 1", "work 'day;' = 1", "image = 2", "work 'day;' = 1",
                "image = 3", "work 'day;' = 1", "image = -1", "told 3 = 3", "restore = 2", "told 3 = 2");
    }

    // Promise 43: "as in the latest IMAGE, which is gone"
    private static void theLatestImage() {
        Script.run(c, "one behind the other", CHOIR, "image = 1", "work 'day;' = 1", "image = 2", "work 'day;' = 1", "image = 3",
                "work 'day;' = 1", "told 3 = 3", "restore = 2", "told 3 = 2", "restore = 1", "told 3 = 1", "restore = 0",
                "told 3 = 0", "restore = -1", "told 3 = 0");
        Script.run(c, "each as it was, whatever was done since", CHOIR, "work 'hoarse 0;' = 1", "image = 1", "undo = 0",
                "work 'hoarse 1;' = 1", "image = 2", "undo = 0", "told 4 = 0", "restore = 1", "told 4 = 2", "work 'day;' = 1",
                "restore = 0", "told 4 = 1", "told 3 = 0", "count 2 = 1");
        Script.run(c, "twice the same", CHOIR, "work 'day;' = 1", "image = 1", "image = 2", "work 'day;hymn;' = 2", "restore = 1",
                "told 3 = 1", "told 6 = 0", "work 'hymn;' = 1", "restore = 0", "told 3 = 1", "told 6 = 0", "count 2 = 1");
    }

    // Promise 3: "no LAW, BOOK, IMAGES, nothing to undo"; "or the FAULT less 10 (all stays)"
    private static void choirsAndImages() {
        Script.run(c, "a new choir has none", CHOIR, "image = 1", "image = 2", "work 'day;' = 1", CHOIR, "count 0 = 0",
                "restore = -1", "count 2 = 0", "undo = -1", "image = 1");
        Script.run(c, "a faulty one leaves them", CHOIR, "image = 1", "work 'day;' = 1", "choir 'x' = -9 @ 0", "count 0 = 1",
                "count 2 = 1", "restore = 0", "told 3 = 0");
        Script.run(c, "a choir of no bytes has none, too", CHOIR, "image = 1", "work 'day;' = 1", "choir 0 = 0", "count 0 = 0",
                "count 2 = 0", "restore = -1", "undo = -1");
        Script.run(c, "a refused one leaves them", CHOIR, "image = 1", "work 'day;' = 1", "choir 1 ! IA", "count 0 = 1",
                "count 2 = 1", "restore = 0");
    }

    // Promise 42: "An IMAGE of all that WORK changes"
    private static void allThatWorkChanges() {
        String[] before = {CHOIR, "work 'word 1 0;hymn;hoarse 0;hymn;day;cure 0;sing 0;' = 7"};
        String[] asked = {"told 3 = 1", "told 4 = 0", "told 5 = 2", "told 6 = 3", "told 7 = 5", "told 8 = 15", "told 10 = 0",
            "told 11 = 2", "singer 0 3 = 7", "singer 0 5 = 3", "singer 0 6 = 5", "singer 0 7 = 1", "singer 1 3 = 8",
            "singer 1 5 = 0", "singer 1 6 = 0", "singer 1 7 = 0", "note 0 0 = 0", "note 1 0 = 0", "count 2 = 1"};
        Script.run(c, "all of it is so", before, asked);
        List<String> restored = new ArrayList<>(List.of("image = 1",
                "work 'word 1 1;hymn;hymn;hoarse 1;hoarse 1;hymn;day;rest;hoarse 0;hymn;' = 8", "told 10 = 2", "restore = 0"));
        restored.addAll(List.of(asked));
        Script.run(c, "all of it is so once more", before, restored.toArray(new String[0]));
        List<String> undone = new ArrayList<>(List.of("work 'word 1 1;hymn;hoarse 1;hoarse 1;hymn;day;rest;' = 5", "undo = 1"));
        undone.addAll(List.of(asked));
        Script.run(c, "all of it is so, undone", before, undone.toArray(new String[0]));
    }

    // Promise 42: "and of WORKS that can be undone"
    private static void worksInImages() {
        Script.run(c, "works", CHOIR, "work 'hoarse 0;' = 1", "work 'day;' = 1", "image = 1", "undo = 1", "undo = 0",
                "work 'hoarse 1;' = 1", "work 'hymn;' = 1", "work 'hymn;' = 1", "count 2 = 3", "restore = 0", "count 2 = 2",
                "told 3 = 1", "told 4 = 1", "undo = 1", "told 3 = 0", "told 4 = 1", "undo = 0", "told 4 = 0", "undo = -1");
        Script.run(c, "none in it", CHOIR, "image = 1", "work 'day;' = 1", "restore = 0", "count 2 = 0", "undo = -1");
        Script.run(c, "an image is no work", CHOIR, "work 'day;' = 1", "image = 1", "undo = 0", "told 3 = 0", "count 0 = 1",
                "restore = 0", "told 3 = 1", "count 2 = 1");
    }

    private static void sixteenWorksInAnImage() {
        List<String> lines = new ArrayList<>();
        for (int k = 1; k <= 16; k++) {
            lines.add("work 'day;' = 1");
        }
        lines.addAll(List.of("image = 1", "work 'day;' = -20", "undo = 15", "undo = 14", "work 'hymn;' = 1", "restore = 0",
                "count 2 = 16", "told 3 = 16", "work 'day;' = -20"));
        for (int k = 15; k >= 0; k--) {
            lines.add("undo = " + k);
            lines.add("told 3 = " + k);
        }
        lines.add("undo = -1");
        Script.run(c, "sixteen in it", new String[] {CHOIR}, lines.toArray(new String[0]));
        List<String> more = new ArrayList<>();
        more.add("image = 1");
        for (int k = 1; k <= 16; k++) {
            more.add("work 'day;' = 1");
        }
        more.addAll(List.of("work 'day;' = -20", "restore = 0", "count 2 = 0", "work 'day;' = 1", "count 2 = 1", "told 3 = 1"));
        Script.run(c, "there is room once more", new String[] {CHOIR}, more.toArray(new String[0]));
    }

    // Promise 44: "(No IMAGE keeps it.)"; the LAW, the BOOK, the TAPE and the FAULT are not changed by WORK
    private static void whatNoImageKeeps() {
        Script.run(c, "what no image keeps", CHOIR, "image = 1", "law '1' = 1", "book '1 1;' = 1", "told 12 ! IA",
                "singer 2 0 ! NS", "choir 'x' = -9 @ 0", "feed 'day;' = 20", "restore = 0", "takes 0 0 = 1", "told 9 = 1",
                "status 0 = 1", "status 1 = 1", "fault = 0", "count 1 = 20", "work 4 = 1", "told 3 = 1");
        Script.run(c, "nor does undo change it", CHOIR, "work 'day;' = 1", "law '1' = 1", "book '1 1;' = 1", "told 12 ! IA",
                "singer 2 0 ! NS", "choir 'x' = -9 @ 0", "feed 'day;' = 20", "undo = 0", "takes 0 0 = 1", "told 9 = 1",
                "fault = 0", "count 1 = 20", "work 4 = 1", "told 3 = 1");
    }

    // Promise 44: "How many calls were refused"
    private static void status() {
        Script.run(c, "status", "status 0 = 0", "status 1 = 0", "status 2 = -1", "status -1 = -1", "status MIN = -1",
                "status MAX = -1", "singer 0 0 ! NS", "singer 0 9 ! NS", "rent 0 1 1000 ! NS", "told 12 ! IA",
                "span 1 1 1 1 1 0 ! IA", CHOIR, "takes 9 9 ! NS", "work 'day;' = 1", "undo = 0", "image = 1", "restore = 0",
                "status 0 = 4", "status 1 = 2", "status 2 = -1");
    }

    // Promise 45: "0 IMAGES, 1 bytes of the TAPE, 2 WORKS that can be undone; NONE for others"
    private static void count() {
        Script.run(c, "count", "count 0 = 0", "count 1 = 0", "count 2 = 0", "count 3 = -1", "count -1 = -1", "count MIN = -1",
                "count MAX = -1", "feed 1 2 3 4 5 = 20", "count 1 = 20", "choir 0 = 0", "count 1 = 0", "work 'day;' = 1",
                "count 2 = 1", "image = 1", "count 0 = 1", "undo = 0", "count 2 = 0", "restore = 0", "count 2 = 1",
                "count 0 = 0");
    }

    // "An object is used for at most 512 calls after it has been made"
    private static void calls() {
        VowelChoir x = new VowelChoir();
        int made = 0;
        for (; made < 500; made += 5) {
            c.same("feed", x.feed(0x6461793B, 0, 0, 0, 0), 20);
            c.same("work", x.work(4), made < 80 ? 1 : -20);
            c.same("day", x.told(3), Math.min(made / 5 + 1, 16));
            c.holds("refused", Checks.outcome(() -> x.told(12)).equals("throws.IllegalArgumentException"));
            c.same("refused by now", x.status(1), made / 5 + 1);
        }
        for (; made < 507; made++) {
            c.same("undo", x.undo(), 515 - made);
        }
        c.same("feed", x.feed(0x6461793B, 0, 0, 0, 0), 20);
        c.same("work", x.work(4), 1);
        c.same("day", x.told(3), 10);
        c.same("works", x.count(2), 10);
        c.same("the 512th call", x.status(1), 100);
    }
}
