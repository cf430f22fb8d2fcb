/** The calls of the face by their names. */
final class Face {
    private Face() {
    }

    static long call(VowelChoir x, String name, int[] a) {
        switch (name) {
            case "feed": return x.feed(a[0], a[1], a[2], a[3], a[4]);
            case "choir": return x.choir(a[0]);
            case "law": return x.law(a[0]);
            case "work": return x.work(a[0]);
            case "book": return x.book(a[0]);
            case "fault": return x.fault();
            case "undo": return x.undo();
            case "told": return x.told(a[0]);
            case "singer": return x.singer(a[0], a[1]);
            case "note": return x.note(a[0], a[1]);
            case "like": return x.like(a[0], a[1]);
            case "takes": return x.takes(a[0], a[1]);
            case "would": return x.would(a[0], a[1], a[2], a[3], a[4], a[5], a[6], a[7]);
            case "ahead": return x.ahead(a[0], a[1]);
            case "cast": return x.cast();
            case "handed": return x.handed(a[0], a[1]);
            case "bench": return x.bench();
            case "benched": return x.benched(a[0]);
            case "wording": return x.wording();
            case "wordings": return x.wordings(a[0]);
            case "who": return x.who(a[0]);
            case "listen": return x.listen(a[0]);
            case "duty": return x.duty(a[0]);
            case "range": return x.range(a[0]);
            default: return more(x, name, a);
        }
    }

    private static long more(VowelChoir x, String name, int[] a) {
        switch (name) {
            case "quarrel": return x.quarrel(a[0], a[1], a[2]);
            case "enough": return x.enough(a[0], a[1], a[2], a[3]);
            case "rent": return x.rent(a[0], a[1], a[2]);
            case "dearest": return x.dearest(a[0]);
            case "voices": return x.voices(a[0]);
            case "sounds": return x.sounds(a[0]);
            case "beats": return x.beats(a[0]);
            case "words": return x.words(a[0]);
            case "mute": return x.mute();
            case "idle": return x.idle();
            case "alone": return x.alone(a[0]);
            case "longest": return x.longest(a[0]);
            case "chorus": return x.chorus(a[0]);
            case "spare": return x.spare(a[0]);
            case "sunday": return x.sunday(a[0], a[1], a[2], a[3]);
            case "span": return x.span(a[0], a[1], a[2], a[3], a[4], a[5]);
            case "image": return x.image();
            case "restore": return x.restore();
            case "status": return x.status(a[0]);
            case "count": return x.count(a[0]);
            default: throw new IllegalStateException("no call named " + name);
        }
    }
}
